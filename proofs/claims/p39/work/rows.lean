section
abbrev sx_F : Type := Nat → Nat → Int32
def sx_u (f : sx_F) (k j : Nat) (v : Int32) : sx_F := fun i => if i = k then upd (f k) j v else f i
theorem sx_u_s {f : sx_F} {k j : Nat} {v : Int32} : sx_u f k j v k = upd (f k) j v := if_pos rfl
theorem sx_u_n {f : sx_F} {k j i : Nat} {v : Int32} (h : i ≠ k) : sx_u f k j v i = f i := if_neg h
end
section
def P_X6_slotOf (f : sx_F) (x0 : Int32) (x1 : Int32) (Q : Int32 → Prop) : Prop :=
  Q ((x0 * 12) + x1)
def P_X4_pitchAt (f : sx_F) (x1 : Int32) (x2 : Int32) (Q : Int32 → Prop) : Prop :=
  (vp_in ((x1 * 8) + x2) 480 ∧ Q (f 7 ((x1 * 8) + x2).toNatClampNeg))
def P_X4_isSilent (f : sx_F) (x1 : Int32) (x2 : Int32) (Q : Int32 → Prop) : Prop :=
  ∀ (B9 : Int32 → Int32 → Prop),
  (∀ (v3 : Int32) (v4 : Int32), (vp_in v3 60 ∧ (((f 5 v3.toNatClampNeg) ≤ v4 → Q 1) ∧ (¬ (f 5 v3.toNatClampNeg) ≤ v4 → (P_X4_pitchAt f v3 v4 (fun r2 => ((r2 ≤ 0 → (∀ y5 : Int32, y5 = v4 + 1 → B9 v3 y5)) ∧ (¬ r2 ≤ 0 → Q 0))))))) → B9 v3 v4) →
  (P_X6_slotOf f x1 x2 (fun r6 => B9 r6 0))
def P_X4_cuePlayer (f : sx_F) (x1 : Int32) (x2 : Int32) (Q : Int32 → Prop) : Prop :=
  ∀ (B61 : Prop),
  ∀ (B62 : Int32 → Prop),
  ∀ (B78 : Int32 → Int32 → Int32 → Prop),
  ∀ (B128 : Int32 → Int32 → Int32 → Prop),
  (B62 0 → B61 ) →
  (∀ (s0 : Int32), ((s0 = 0 → Q (-1)) ∧ (¬ s0 = 0 → B78 (-1) 0 0)) → B62 s0) →
  (∀ (v4 : Int32) (v5 : Int32) (v6 : Int32), ((5 ≤ v6 → Q v4) ∧ (¬ 5 ≤ v6 → (P_X6_slotOf f v6 x2 (fun r3 => (vp_in r3 60 ∧ (∀ y5 : Int32, y5 = (f 5 r3.toNatClampNeg) → ((v6 = x1 → B128 v4 v5 v6) ∧ (¬ v6 = x1 → ((y5 ≤ v5 → B128 v4 v5 v6) ∧ (¬ y5 ≤ v5 → (P_X4_isSilent f v6 x2 (fun r8 => ((r8 = 0 → B128 v6 y5 v6) ∧ (¬ r8 = 0 → B128 v4 v5 v6)))))))))))))) → B78 v4 v5 v6) →
  (∀ (v4 : Int32) (v5 : Int32) (v6 : Int32), (∀ y11 : Int32, y11 = v6 + 1 → B78 v4 v5 y11) → B128 v4 v5 v6) →
  ((x2 < 2 → B61) ∧ (¬ x2 < 2 → (((f 1 0) ≤ (x2 + 1) → B61) ∧ (¬ (f 1 0) ≤ (x2 + 1) → (P_X4_isSilent f x1 (x2 - 2) (fun r14 => ((r14 = 0 → B61) ∧ (¬ r14 = 0 → (P_X4_isSilent f x1 (x2 - 1) (fun r17 => ((r17 = 0 → B61) ∧ (¬ r17 = 0 → (P_X4_isSilent f x1 x2 (fun r20 => ((r20 = 0 → B61) ∧ (¬ r20 = 0 → (P_X4_isSilent f x1 (x2 + 1) (fun r23 => ((r23 = 0 → B62 1) ∧ (¬ r23 = 0 → B61))))))))))))))))))))
def P_X0_drawerOf (f : sx_F) (x1 : Int32) (Q : Int32 → Prop) : Prop :=
  ∀ (B23 : Prop),
  (Q (f 8 2) → B23 ) →
  (((f 8 2) = 5 → B23) ∧ (¬ (f 8 2) = 5 → (P_X4_isSilent f (f 8 2) x1 (fun r2 => ((r2 = 0 → B23) ∧ (¬ r2 = 0 → (P_X4_cuePlayer f (f 8 2) x1 (fun r5 => Q r5))))))))
def P_X5_addSpring (f : sx_F) (x1 : Int32) (x2 : Int32) (x3 : Int32) (Q : sx_F → Prop) : Prop :=
  (vp_in (f 9 0) 32 ∧ ∀ g1 : sx_F, g1 = sx_u f 10 (f 9 0).toNatClampNeg x1 → (vp_in (g1 9 0) 33 ∧ (vp_in ((g1 9 0) + 1) 33 ∧ ∀ g2 : sx_F, g2 = sx_u g1 11 ((g1 9 0) + 1).toNatClampNeg ((g1 11 (g1 9 0).toNatClampNeg) + x2) → (vp_in (g2 9 0) 33 ∧ (vp_in ((g2 9 0) + 1) 33 ∧ ∀ g3 : sx_F, g3 = sx_u g2 12 ((g2 9 0) + 1).toNatClampNeg ((g2 12 (g2 9 0).toNatClampNeg) + x3) → (∀ g4 : sx_F, g4 = sx_u g3 9 0 ((g3 9 0) + 1) → Q g4))))))
def P_J7_fill_53178 (f : sx_F) (k0 : Nat) (Nk0 : Nat) (x1 : Int32) (Q : sx_F → Prop) : Prop :=
  ∀ (B5 : sx_F → Int32 → Int32 → Prop),
  (∀ (f : sx_F) (v2 : Int32) (v3 : Int32), ((v3 ≤ v2 → Q f) ∧ (¬ v3 ≤ v2 → (vp_in v2 Nk0 ∧ ∀ g2 : sx_F, g2 = sx_u f k0 v2.toNatClampNeg x1 → (∀ y3 : Int32, y3 = v2 + 1 → B5 g2 y3 v3)))) → B5 f v2 v3) →
  (∀ y4 : Int32, y4 = (Int32.ofNat Nk0) → B5 f 0 y4)
def P_X5_addPlace (f : sx_F) (x1 : Int32) (x2 : Int32) (Q : sx_F → Prop) : Prop :=
  ∀ (B17 : sx_F → Prop),
  (∀ (f : sx_F), ((x2 = 0 → Q f) ∧ (¬ x2 = 0 → (vp_in x1 32 ∧ (vp_in x1 32 ∧ ∀ g2 : sx_F, g2 = sx_u f 13 x1.toNatClampNeg ((f 13 x1.toNatClampNeg) + 1) → Q g2)))) → B17 f) →
  (vp_in x1 32 ∧ (((f 13 x1.toNatClampNeg) = (-1) → (vp_in x1 32 ∧ ∀ g4 : sx_F, g4 = sx_u f 13 x1.toNatClampNeg 0 → B17 g4)) ∧ (¬ (f 13 x1.toNatClampNeg) = (-1) → B17 f)))
def P_X4_lengthAt (f : sx_F) (x1 : Int32) (x2 : Int32) (Q : Int32 → Prop) : Prop :=
  (vp_in ((x1 * 8) + x2) 480 ∧ Q (f 6 ((x1 * 8) + x2).toNatClampNeg))
def P_X5_addPlaces (f : sx_F) (x2 : Int32) (x3 : Int32) (Q : sx_F → Prop) : Prop :=
  ∀ (B6 : sx_F → Int32 → Int32 → Prop),
  ∀ (B41 : sx_F → Int32 → Int32 → Int32 → Int32 → Prop),
  ∀ (B62 : sx_F → Int32 → Prop),
  (∀ (f : sx_F) (v4 : Int32) (v5 : Int32), (vp_in x2 60 ∧ (((f 5 x2.toNatClampNeg) ≤ v5 → B62 f v4) ∧ (¬ (f 5 x2.toNatClampNeg) ≤ v5 → ((x3 ≤ v4 → B62 f v4) ∧ (¬ x3 ≤ v4 → (P_X4_pitchAt f x2 v5 (fun r3 => ((r3 ≤ 0 → B41 f v4 v5 v4 0) ∧ (¬ r3 ≤ 0 → B41 f v4 v5 v4 1))))))))) → B6 f v4 v5) →
  (∀ (f : sx_F) (v4 : Int32) (v5 : Int32) (s1 : Int32) (s2 : Int32), (P_X5_addPlace f s1 s2 (fun g6 => (P_X4_lengthAt g6 x2 v5 (fun r7 => (∀ y9 : Int32, y9 = (v4 + r7) → (∀ y10 : Int32, y10 = v5 + 1 → B6 g6 y9 y10)))))) → B41 f v4 v5 s1 s2) →
  (∀ (f : sx_F) (v4 : Int32), ((x3 ≤ v4 → Q f) ∧ (¬ x3 ≤ v4 → (P_X5_addPlace f v4 0 (fun g12 => Q g12)))) → B62 f v4) →
  B6 f 0 0
def P_X5_nextPlace (f : sx_F) (x1 : Int32) (x2 : Int32) (Q : Int32 → Prop) : Prop :=
  ∀ (B4 : Int32 → Prop),
  (∀ (v3 : Int32), ((x2 ≤ v3 → Q x2) ∧ (¬ x2 ≤ v3 → (vp_in v3 32 ∧ (((f 13 v3.toNatClampNeg) = (-1) → (∀ y3 : Int32, y3 = v3 + 1 → B4 y3)) ∧ (¬ (f 13 v3.toNatClampNeg) = (-1) → Q v3))))) → B4 v3) →
  (∀ y4 : Int32, y4 = (x1 + 1) → B4 y4)
def P_X5_naturalWidth (f : sx_F) (x0 : Int32) (Q : Int32 → Prop) : Prop :=
  ∀ (B5 : Int32 → Int32 → Prop),
  (∀ (v1 : Int32) (v2 : Int32), ((v2 ≤ 1 → Q v1) ∧ (¬ v2 ≤ 1 → (∀ y2 : Int32, y2 = v1 + 3 → (∀ y3 : Int32, y3 = (v2 / 2) → B5 y2 y3)))) → B5 v1 v2) →
  B5 6 x0
def P_X5_addSprings (f : sx_F) (x1 : Int32) (Q : sx_F → Prop) : Prop :=
  ∀ (B2 : sx_F → Int32 → Prop),
  ∀ (B51 : sx_F → Int32 → Prop),
  (∀ (f : sx_F) (v2 : Int32), ((x1 ≤ v2 → Q f) ∧ (¬ x1 ≤ v2 → (vp_in v2 32 ∧ (((f 13 v2.toNatClampNeg) = (-1) → B51 f v2) ∧ (¬ (f 13 v2.toNatClampNeg) = (-1) → (vp_in v2 32 ∧ (∀ y3 : Int32, y3 = (4 + (f 13 v2.toNatClampNeg)) → (P_X5_nextPlace f v2 x1 (fun r4 => (P_X5_naturalWidth f (r4 - v2) (fun r6 => (P_X5_addSpring f v2 (if r6 < y3 then y3 else r6) y3 (fun g8 => B51 g8 v2))))))))))))) → B2 f v2) →
  (∀ (f : sx_F) (v2 : Int32), (∀ y9 : Int32, y9 = v2 + 1 → B2 f y9) → B51 f v2) →
  B2 f 0
def P_X5_draw (f : sx_F) (x2 : Int32) (x3 : Int32) (Q : sx_F → Prop) : Prop :=
  ∀ (B31 : sx_F → Int32 → Prop),
  ∀ (B48 : sx_F → Int32 → Prop),
  ∀ (B65 : sx_F → Int32 → Prop),
  (∀ (f : sx_F) (v4 : Int32), ((5 ≤ v4 → (vp_in x3 12 ∧ (P_X5_addSprings f (f 2 x3.toNatClampNeg) (fun g2 => Q g2)))) ∧ (¬ 5 ≤ v4 → ((x2 = 5 → B48 f v4) ∧ (¬ x2 = 5 → ((x2 = v4 → B48 f v4) ∧ (¬ x2 = v4 → B65 f v4)))))) → B31 f v4) →
  (∀ (f : sx_F) (v4 : Int32), (P_X6_slotOf f v4 x3 (fun r5 => (vp_in x3 12 ∧ (P_X5_addPlaces f r5 (f 2 x3.toNatClampNeg) (fun g7 => B65 g7 v4))))) → B48 f v4) →
  (∀ (f : sx_F) (v4 : Int32), (∀ y8 : Int32, y8 = v4 + 1 → B31 f y8) → B65 f v4) →
  (∀ g9 : sx_F, g9 = sx_u f 9 0 0 → ((x2 = (-1) → (P_X5_addSpring g9 0 24 16 (fun g12 => Q g12))) ∧ (¬ x2 = (-1) → (P_J7_fill_53178 g9 13 32 (-1) (fun g11 => B31 g11 0)))))
def P_X5_widthOfAll (f : sx_F)  (Q : Int32 → Prop) : Prop :=
  (vp_in (f 9 0) 33 ∧ Q (f 11 (f 9 0).toNatClampNeg))
def P_X5_leastOfAll (f : sx_F)  (Q : Int32 → Prop) : Prop :=
  (vp_in (f 9 0) 33 ∧ Q (f 12 (f 9 0).toNatClampNeg))
def P_X0_addItem (f : sx_F) (x1 : Int32) (x2 : Int32) (Q : sx_F → Prop) : Prop :=
  (vp_in (f 8 3) 12 ∧ ∀ g1 : sx_F, g1 = sx_u f 14 (f 8 3).toNatClampNeg x1 → (vp_in (g1 8 3) 12 ∧ ∀ g2 : sx_F, g2 = sx_u g1 16 (g1 8 3).toNatClampNeg x2 → (P_X5_draw g2 x2 x1 (fun g3 => (vp_in (g3 8 3) 13 ∧ (P_X5_widthOfAll g3 (fun r4 => (vp_in ((g3 8 3) + 1) 13 ∧ ∀ g6 : sx_F, g6 = sx_u g3 17 ((g3 8 3) + 1).toNatClampNeg ((g3 17 (g3 8 3).toNatClampNeg) + r4) → (vp_in (g6 8 3) 13 ∧ (P_X5_leastOfAll g6 (fun r7 => (vp_in ((g6 8 3) + 1) 13 ∧ ∀ g9 : sx_F, g9 = sx_u g6 18 ((g6 8 3) + 1).toNatClampNeg ((g6 18 (g6 8 3).toNatClampNeg) + r7) → (∀ g10 : sx_F, g10 = sx_u g9 8 3 ((g9 8 3) + 1) → Q g10)))))))))))))
def P_X0_gather (f : sx_F) (x1 : Int32) (Q : sx_F → Prop) : Prop :=
  ∀ (B12 : sx_F → Int32 → Prop),
  ∀ (B60 : sx_F → Int32 → Int32 → Prop),
  ∀ (B61 : sx_F → Int32 → Int32 → Int32 → Prop),
  ∀ (B74 : sx_F → Int32 → Prop),
  (∀ (f : sx_F) (v2 : Int32), (((f 1 0) ≤ v2 → Q f) ∧ (¬ (f 1 0) ≤ v2 → (P_X0_drawerOf f v2 (fun r2 => ((r2 = (-1) → (((f 8 3) ≤ 0 → B60 f v2 r2) ∧ (¬ (f 8 3) ≤ 0 → (vp_in ((f 8 3) - 1) 12 ∧ (((f 16 ((f 8 3) - 1).toNatClampNeg) = (-1) → B61 f v2 r2 1) ∧ (¬ (f 16 ((f 8 3) - 1).toNatClampNeg) = (-1) → B60 f v2 r2)))))) ∧ (¬ r2 = (-1) → B60 f v2 r2)))))) → B12 f v2) →
  (∀ (f : sx_F) (v2 : Int32) (v3 : Int32), B61 f v2 v3 0 → B60 f v2 v3) →
  (∀ (f : sx_F) (v2 : Int32) (v3 : Int32) (s0 : Int32), ((s0 = 0 → (P_X0_addItem f v2 v3 (fun g8 => B74 g8 v2))) ∧ (¬ s0 = 0 → B74 f v2)) → B61 f v2 v3 s0) →
  (∀ (f : sx_F) (v2 : Int32), (vp_in v2 12 ∧ ∀ g9 : sx_F, g9 = sx_u f 15 v2.toNatClampNeg ((f 8 3) - 1) → (∀ y10 : Int32, y10 = v2 + 1 → B12 g9 y10)) → B74 f v2) →
  (∀ g11 : sx_F, g11 = sx_u f 8 2 x1 → (∀ g12 : sx_F, g12 = sx_u g11 8 3 0 → B12 g12 0))
def P_X5_springFrom (f : sx_F) (x1 : Int32) (Q : Int32 → Prop) : Prop :=
  ∀ (B2 : Int32 → Prop),
  (∀ (v2 : Int32), (((f 9 0) ≤ v2 → Q (-1)) ∧ (¬ (f 9 0) ≤ v2 → (vp_in v2 32 ∧ (((f 10 v2.toNatClampNeg) = x1 → Q v2) ∧ (¬ (f 10 v2.toNatClampNeg) = x1 → (∀ y3 : Int32, y3 = v2 + 1 → B2 y3)))))) → B2 v2) →
  B2 0
def P_X0_drawSpring (f : sx_F) (x1 : Int32) (x2 : Int32) (Q : Int32 → sx_F → Prop) : Prop :=
  (vp_in x1 12 ∧ (∀ y1 : Int32, y1 = (f 15 x1.toNatClampNeg) → (vp_in y1 12 ∧ (vp_in y1 12 ∧ (P_X5_draw f (f 16 y1.toNatClampNeg) (f 14 y1.toNatClampNeg) (fun g2 => (vp_in y1 12 ∧ (((g2 14 y1.toNatClampNeg) = x1 → (P_X5_springFrom g2 x2 (fun r4 => Q r4 g2))) ∧ (¬ (g2 14 y1.toNatClampNeg) = x1 → Q (-1) g2)))))))))
def P_X0_widthOf (f : sx_F) (x1 : Int32) (x2 : Int32) (Q : Int32 → Prop) : Prop :=
  (vp_in x2 13 ∧ (vp_in x1 13 ∧ Q (((8 * (x2 - x1)) + (f 17 x2.toNatClampNeg)) - (f 17 x1.toNatClampNeg))))
def P_X0_leastOf (f : sx_F) (x1 : Int32) (x2 : Int32) (Q : Int32 → Prop) : Prop :=
  (vp_in x2 13 ∧ (vp_in x1 13 ∧ Q (((8 * (x2 - x1)) + (f 18 x2.toNatClampNeg)) - (f 18 x1.toNatClampNeg))))
def P_X1_isOut (f : sx_F) (o0 : Nat) (Q : Int32 → Prop) : Prop :=
  (((f o0 2) = (-1) → Q 0) ∧ (¬ (f o0 2) = (-1) → Q 1))
def P_X1_scoreVersion (f : sx_F) (o0 : Nat) (x1 : Int32) (Q : Int32 → Prop) : Prop :=
  (P_X6_slotOf f (f o0 1) x1 (fun r1 => (vp_in r1 60 ∧ Q (f 4 r1.toNatClampNeg))))
def P_X1_takeVersions (f : sx_F) (o0 : Nat) (Q : sx_F → Prop) : Prop :=
  ∀ (B2 : sx_F → Int32 → Prop),
  ∀ (B33 : sx_F → Int32 → Int32 → Int32 → Prop),
  (∀ (f : sx_F) (v1 : Int32), ((12 ≤ v1 → Q f) ∧ (¬ 12 ≤ v1 → (((f 1 0) ≤ v1 → B33 f v1 v1 (-1)) ∧ (¬ (f 1 0) ≤ v1 → (P_X1_scoreVersion f o0 v1 (fun r3 => B33 f v1 v1 r3)))))) → B2 f v1) →
  (∀ (f : sx_F) (v1 : Int32) (s1 : Int32) (s2 : Int32), (vp_in s1 12 ∧ ∀ g5 : sx_F, g5 = sx_u f (o0 + 1) s1.toNatClampNeg s2 → (∀ y6 : Int32, y6 = v1 + 1 → B2 g5 y6)) → B33 f v1 s1 s2) →
  B2 f 0
def P_X1_versionOf (f : sx_F) (o0 : Nat) (x1 : Int32) (Q : Int32 → Prop) : Prop :=
  (P_X1_isOut f o0 (fun r1 => ((r1 = 0 → (P_X1_scoreVersion f o0 x1 (fun r4 => Q r4))) ∧ (¬ r1 = 0 → (vp_in x1 12 ∧ Q (f (o0 + 1) x1.toNatClampNeg))))))
def P_X1_lacks (f : sx_F) (o0 : Nat) (x1 : Int32) (Q : Int32 → Prop) : Prop :=
  (P_X1_versionOf f o0 x1 (fun r1 => ((r1 = (-1) → Q 1) ∧ (¬ r1 = (-1) → Q 0))))
def P_X1_owes (f : sx_F) (o0 : Nat) (x1 : Int32) (Q : Int32 → Prop) : Prop :=
  (P_X1_versionOf f o0 x1 (fun r1 => (P_X1_scoreVersion f o0 x1 (fun r3 => ((r1 = r3 → Q 0) ∧ (¬ r1 = r3 → Q 1))))))
def P_X1_countDebts (f : sx_F) (o0 : Nat) (Q : Int32 → Prop) : Prop :=
  ∀ (B4 : Int32 → Int32 → Prop),
  ∀ (B26 : Int32 → Int32 → Prop),
  (∀ (v1 : Int32) (v2 : Int32), (((f 1 0) ≤ v2 → Q v1) ∧ (¬ (f 1 0) ≤ v2 → (P_X1_owes f o0 v2 (fun r2 => ((r2 = 0 → B26 v1 v2) ∧ (¬ r2 = 0 → (∀ y5 : Int32, y5 = v1 + 1 → B26 y5 v2))))))) → B4 v1 v2) →
  (∀ (v1 : Int32) (v2 : Int32), (∀ y6 : Int32, y6 = v2 + 1 → B4 v1 y6) → B26 v1 v2) →
  B4 0 0
def P_X2_changeMark (f : sx_F) (o0 : Nat) (x1 : Int32) (x2 : Int32) (x3 : Int32) (Q : Int32 → sx_F → Prop) : Prop :=
  (vp_in x1 60 ∧ (∀ y1 : Int32, y1 = (f (o0 + 1) x1.toNatClampNeg) → (vp_in x1 60 ∧ ∀ g2 : sx_F, g2 = sx_u f (o0 + 1) x1.toNatClampNeg x2 → (vp_in x1 60 ∧ ∀ g3 : sx_F, g3 = sx_u g2 (o0 + 2) x1.toNatClampNeg x3 → Q y1 g3))))
def P_X2_countOldMarks (f : sx_F) (o0 : Nat) (Q : Int32 → Prop) : Prop :=
  ∀ (B4 : Int32 → Int32 → Prop),
  ∀ (B37 : Int32 → Int32 → Prop),
  (∀ (v2 : Int32) (v3 : Int32), ((60 ≤ v3 → Q v2) ∧ (¬ 60 ≤ v3 → (vp_in v3 60 ∧ (((f (o0 + 1) v3.toNatClampNeg) = 0 → B37 v2 v3) ∧ (¬ (f (o0 + 1) v3.toNatClampNeg) = 0 → (vp_in v3 60 ∧ (vp_in v3 60 ∧ (((f (o0 + 2) v3.toNatClampNeg) = (f 4 v3.toNatClampNeg) → B37 v2 v3) ∧ (¬ (f (o0 + 2) v3.toNatClampNeg) = (f 4 v3.toNatClampNeg) → (∀ y4 : Int32, y4 = v2 + 1 → B37 y4 v3)))))))))) → B4 v2 v3) →
  (∀ (v2 : Int32) (v3 : Int32), (∀ y5 : Int32, y5 = v3 + 1 → B4 v2 y5) → B37 v2 v3) →
  B4 0 0
def P_X2_bowingAt (f : sx_F) (o0 : Nat) (x1 : Int32) (x2 : Int32) (x3 : Int32) (Q : Int32 → Prop) : Prop :=
  (vp_in x1 60 ∧ (((f (o0 + 4) x1.toNatClampNeg) = x3 → (vp_in x1 60 ∧ Q (((f (o0 + 3) x1.toNatClampNeg) >>> ((2 * x2) &&& 31)) &&& 3))) ∧ (¬ (f (o0 + 4) x1.toNatClampNeg) = x3 → Q 0)))
def P_X2_changeBowing (f : sx_F) (o0 : Nat) (x1 : Int32) (x2 : Int32) (x3 : Int32) (x4 : Int32) (Q : Int32 → sx_F → Prop) : Prop :=
  ∀ (B36 : sx_F → Int32 → Prop),
  (∀ (f : sx_F) (v5 : Int32), (vp_in x1 60 ∧ (vp_in x1 60 ∧ ∀ g1 : sx_F, g1 = sx_u f (o0 + 3) x1.toNatClampNeg (((f (o0 + 3) x1.toNatClampNeg) &&& ((3 <<< ((2 * x2) &&& 31)) ^^^ (-1))) ||| (x3 <<< ((2 * x2) &&& 31))) → Q v5 g1)) → B36 f v5) →
  (P_X2_bowingAt f o0 x1 x2 x4 (fun r2 => (vp_in x1 60 ∧ (((f (o0 + 4) x1.toNatClampNeg) = x4 → B36 f r2) ∧ (¬ (f (o0 + 4) x1.toNatClampNeg) = x4 → (vp_in x1 60 ∧ ∀ g5 : sx_F, g5 = sx_u f (o0 + 4) x1.toNatClampNeg x4 → (vp_in x1 60 ∧ ∀ g6 : sx_F, g6 = sx_u g5 (o0 + 3) x1.toNatClampNeg 0 → B36 g6 r2)))))))
def P_X4_silenceAtEnd (f : sx_F) (x1 : Int32) (x2 : Int32) (Q : Int32 → Prop) : Prop :=
  ∀ (B15 : Int32 → Int32 → Int32 → Int32 → Prop),
  ∀ (B52 : Int32 → Int32 → Int32 → Int32 → Prop),
  (∀ (v3 : Int32) (v4 : Int32) (v5 : Int32) (v6 : Int32), (vp_in v3 60 ∧ (((f 5 v3.toNatClampNeg) ≤ v6 → (vp_in x2 12 ∧ Q ((f 2 x2.toNatClampNeg) - v5))) ∧ (¬ (f 5 v3.toNatClampNeg) ≤ v6 → (P_X4_lengthAt f v3 v6 (fun r2 => (∀ y4 : Int32, y4 = (v4 + r2) → (P_X4_pitchAt f v3 v6 (fun r5 => ((r5 ≤ 0 → B52 v3 y4 v5 v6) ∧ (¬ r5 ≤ 0 → B52 v3 y4 y4 v6)))))))))) → B15 v3 v4 v5 v6) →
  (∀ (v3 : Int32) (v4 : Int32) (v5 : Int32) (v6 : Int32), (∀ y8 : Int32, y8 = v6 + 1 → B15 v3 v4 v5 y8) → B52 v3 v4 v5 v6) →
  (P_X6_slotOf f x1 x2 (fun r9 => B15 r9 0 0 0))
def P_X4_silenceAtBeginning (f : sx_F) (x1 : Int32) (x2 : Int32) (Q : Int32 → Prop) : Prop :=
  ∀ (B12 : Int32 → Int32 → Int32 → Prop),
  (∀ (v3 : Int32) (v4 : Int32) (v5 : Int32), (vp_in v3 60 ∧ (((f 5 v3.toNatClampNeg) ≤ v5 → (vp_in x2 12 ∧ Q (f 2 x2.toNatClampNeg))) ∧ (¬ (f 5 v3.toNatClampNeg) ≤ v5 → (P_X4_pitchAt f v3 v5 (fun r2 => ((r2 ≤ 0 → (P_X4_lengthAt f v3 v5 (fun r5 => (∀ y7 : Int32, y7 = (v4 + r5) → (∀ y8 : Int32, y8 = v5 + 1 → B12 v3 y7 y8))))) ∧ (¬ r2 ≤ 0 → Q v4))))))) → B12 v3 v4 v5) →
  (P_X6_slotOf f x1 x2 (fun r9 => B12 r9 0 0))
def P_X4_silenceAround (f : sx_F) (x1 : Int32) (x2 : Int32) (Q : Int32 → Prop) : Prop :=
  ∀ (B7 : Int32 → Int32 → Prop),
  ∀ (B47 : Int32 → Prop),
  ∀ (B50 : Int32 → Int32 → Prop),
  (∀ (v3 : Int32) (v4 : Int32), ((v4 < 0 → B47 v3) ∧ (¬ v4 < 0 → (P_X4_silenceAtEnd f x1 v4 (fun r2 => (∀ y4 : Int32, y4 = (v3 + r2) → (vp_in v4 12 ∧ (((f 2 v4.toNatClampNeg) ≤ r2 → (∀ y6 : Int32, y6 = v4 + (-1) → B7 y4 y6)) ∧ (¬ (f 2 v4.toNatClampNeg) ≤ r2 → B47 y4)))))))) → B7 v3 v4) →
  (∀ (v3 : Int32), B50 v3 x2 → B47 v3) →
  (∀ (v3 : Int32) (v4 : Int32), (((f 1 0) ≤ v4 → Q v3) ∧ (¬ (f 1 0) ≤ v4 → (P_X4_silenceAtBeginning f x1 v4 (fun r8 => (∀ y10 : Int32, y10 = (v3 + r8) → (vp_in v4 12 ∧ (((f 2 v4.toNatClampNeg) ≤ r8 → (∀ y12 : Int32, y12 = v4 + 1 → B50 y10 y12)) ∧ (¬ (f 2 v4.toNatClampNeg) ≤ r8 → Q y10)))))))) → B50 v3 v4) →
  (∀ y13 : Int32, y13 = (x2 - 1) → B7 0 y13)
def P_X3_priceTurns (f : sx_F)  (Q : sx_F → Prop) : Prop :=
  ∀ (B22 : sx_F → Int32 → Prop),
  (∀ (f : sx_F) (v1 : Int32), (((f 8 3) ≤ v1 → Q f) ∧ (¬ (f 8 3) ≤ v1 → (vp_in v1 12 ∧ (P_X4_silenceAround f (f 8 2) (f 14 v1.toNatClampNeg) (fun r2 => (vp_in v1 13 ∧ ∀ g4 : sx_F, g4 = sx_u f 20 v1.toNatClampNeg (100 * (if 0 < (16 - r2) then (16 - r2) else 0)) → (∀ y5 : Int32, y5 = v1 + 1 → B22 g4 y5))))))) → B22 f v1) →
  (P_J7_fill_53178 f 20 13 0 (fun g6 => (((g6 8 2) = 5 → Q g6) ∧ (¬ (g6 8 2) = 5 → B22 g6 0))))
def P_X3_nextOnPage (f : sx_F) (x1 : Int32) (Q : Int32 → Prop) : Prop :=
  (((f 19 2) ≤ (x1 + 1) → Q 0) ∧ (¬ (f 19 2) ≤ (x1 + 1) → Q (x1 + 1)))
def P_X3_mayBeLine (f : sx_F) (x1 : Int32) (x2 : Int32) (Q : Int32 → Prop) : Prop :=
  ∀ (B23 : Prop),
  (Q 1 → B23 ) →
  (((x2 - x1) = 1 → B23) ∧ (¬ (x2 - x1) = 1 → (P_X0_leastOf f x1 x2 (fun r2 => (((f 19 1) < r2 → Q 0) ∧ (¬ (f 19 1) < r2 → B23))))))
def P_X3_badness (f : sx_F) (x1 : Int32) (x2 : Int32) (Q : Int32 → Prop) : Prop :=
  (P_X0_widthOf f x1 x2 (fun r1 => (∀ y3 : Int32, y3 = (r1 - (f 19 1)) → ((y3 ≤ 0 → ((x2 = (f 8 3) → Q 0) ∧ (¬ x2 = (f 8 3) → Q (y3 * y3)))) ∧ (¬ y3 ≤ 0 → Q (((2 * y3) * 2) * y3))))))
def P_X3_turnAhead (f : sx_F) (x1 : Int32) (x2 : Int32) (Q : Int32 → Prop) : Prop :=
  ((x2 = 0 → (vp_in x1 13 ∧ Q (f 20 x1.toNatClampNeg))) ∧ (¬ x2 = 0 → Q 0))
def P_X3_chooseLine (f : sx_F) (x1 : Int32) (x2 : Int32) (Q : sx_F → Prop) : Prop :=
  ∀ (B30 : sx_F → Int32 → Int32 → Prop),
  ∀ (B134 : sx_F → Int32 → Int32 → Int32 → Int32 → Prop),
  ∀ (B164 : sx_F → Int32 → Int32 → Prop),
  (∀ (f : sx_F) (v3 : Int32) (v4 : Int32), (((f 8 3) < v4 → Q f) ∧ (¬ (f 8 3) < v4 → (P_X3_mayBeLine f x1 v4 (fun r2 => ((r2 = 0 → Q f) ∧ (¬ r2 = 0 → (P_X3_badness f x1 v4 (fun r5 => (P_X3_turnAhead f v4 v3 (fun r7 => (vp_in v4 13 ∧ ∀ w9 : Nat, w9 = 22 + v4.toNatClampNeg → (vp_in v3 6 ∧ (∀ y11 : Int32, y11 = ((r5 + r7) + (f w9 v3.toNatClampNeg)) → (vp_in v4 13 ∧ ∀ w12 : Nat, w12 = 36 + v4.toNatClampNeg → (vp_in v3 6 ∧ (∀ y14 : Int32, y14 = (1 + (f w12 v3.toNatClampNeg)) → (vp_in x1 13 ∧ ∀ w15 : Nat, w15 = 22 + x1.toNatClampNeg → (vp_in x2 6 ∧ ((y11 < (f w15 x2.toNatClampNeg) → B134 f v3 v4 y11 y14) ∧ (¬ y11 < (f w15 x2.toNatClampNeg) → (vp_in x1 13 ∧ ∀ w18 : Nat, w18 = 22 + x1.toNatClampNeg → (vp_in x2 6 ∧ ((y11 = (f w18 x2.toNatClampNeg) → (vp_in x1 13 ∧ ∀ w21 : Nat, w21 = 36 + x1.toNatClampNeg → (vp_in x2 6 ∧ (((f w21 x2.toNatClampNeg) ≤ y14 → B164 f v3 v4) ∧ (¬ (f w21 x2.toNatClampNeg) ≤ y14 → B134 f v3 v4 y11 y14))))) ∧ (¬ y11 = (f w18 x2.toNatClampNeg) → B164 f v3 v4)))))))))))))))))))))))) → B30 f v3 v4) →
  (∀ (f : sx_F) (v3 : Int32) (v4 : Int32) (v5 : Int32) (v6 : Int32), (vp_in x1 13 ∧ ∀ w24 : Nat, w24 = 22 + x1.toNatClampNeg → (vp_in x2 6 ∧ ∀ g26 : sx_F, g26 = sx_u f w24 x2.toNatClampNeg v5 → (vp_in x1 13 ∧ ∀ w27 : Nat, w27 = 36 + x1.toNatClampNeg → (vp_in x2 6 ∧ ∀ g29 : sx_F, g29 = sx_u g26 w27 x2.toNatClampNeg v6 → (vp_in x1 13 ∧ ∀ w30 : Nat, w30 = 50 + x1.toNatClampNeg → (vp_in x2 6 ∧ ∀ g32 : sx_F, g32 = sx_u g29 w30 x2.toNatClampNeg v4 → B164 g32 v3 v4)))))) → B134 f v3 v4 v5 v6) →
  (∀ (f : sx_F) (v3 : Int32) (v4 : Int32), (∀ y33 : Int32, y33 = v4 + 1 → B30 f v3 y33) → B164 f v3 v4) →
  (P_X3_nextOnPage f x2 (fun r34 => (vp_in x1 13 ∧ ∀ w36 : Nat, w36 = 22 + x1.toNatClampNeg → (vp_in x2 6 ∧ ∀ g38 : sx_F, g38 = sx_u f w36 x2.toNatClampNeg 1000000000 → (vp_in x1 13 ∧ ∀ w39 : Nat, w39 = 36 + x1.toNatClampNeg → (vp_in x2 6 ∧ ∀ g41 : sx_F, g41 = sx_u g38 w39 x2.toNatClampNeg 0 → (∀ y42 : Int32, y42 = (x1 + 1) → B30 g41 r34 y42)))))))
def P_X3_setLines (f : sx_F)  (Q : sx_F → Prop) : Prop :=
  ∀ (B23 : sx_F → Int32 → Int32 → Int32 → Prop),
  ∀ (B51 : sx_F → Int32 → Int32 → Int32 → Int32 → Prop),
  (∀ (f : sx_F) (v1 : Int32) (v2 : Int32) (v3 : Int32), (((f 19 7) ≤ v3 → (vp_in (f 19 7) 13 ∧ ∀ g2 : sx_F, g2 = sx_u f 63 (f 19 7).toNatClampNeg v1 → Q g2)) ∧ (¬ (f 19 7) ≤ v3 → (vp_in v3 13 ∧ ∀ g3 : sx_F, g3 = sx_u f 63 v3.toNatClampNeg v1 → (vp_in v1 13 ∧ ∀ w4 : Nat, w4 = 50 + v1.toNatClampNeg → (vp_in v2 6 ∧ (∀ y6 : Int32, y6 = (g3 w4 v2.toNatClampNeg) → B51 g3 v2 v3 y6 v1)))))) → B23 f v1 v2 v3) →
  (∀ (f : sx_F) (v2 : Int32) (v3 : Int32) (v4 : Int32) (v5 : Int32), ((v4 ≤ v5 → (P_X3_nextOnPage f v2 (fun r8 => (P_X3_turnAhead f v4 r8 (fun r10 => (∀ g12 : sx_F, g12 = sx_u f 19 8 ((f 19 8) + r10) → (∀ y13 : Int32, y13 = v3 + 1 → B23 g12 v4 r8 y13))))))) ∧ (¬ v4 ≤ v5 → (vp_in v5 12 ∧ ∀ g14 : sx_F, g14 = sx_u f 64 v5.toNatClampNeg v3 → (∀ y15 : Int32, y15 = v5 + 1 → B51 g14 v2 v3 v4 y15)))) → B51 f v2 v3 v4 v5) →
  (vp_in 0 13 ∧ ∀ w16 : Nat, w16 = 36 + (0 : Int32).toNatClampNeg → (vp_in 0 6 ∧ (∀ g18 : sx_F, g18 = sx_u f 19 7 (f w16 (0 : Int32).toNatClampNeg) → (∀ g19 : sx_F, g19 = sx_u g18 19 8 0 → B23 g19 0 0 0))))
def P_X3_breakLines (f : sx_F)  (Q : sx_F → Prop) : Prop :=
  ∀ (B6 : sx_F → Int32 → Prop),
  ∀ (B60 : sx_F → Int32 → Prop),
  ∀ (B66 : sx_F → Int32 → Int32 → Prop),
  (∀ (f : sx_F) (v1 : Int32), (((f 19 2) ≤ v1 → (∀ y2 : Int32, y2 = ((f 8 3) - 1) → B60 f y2)) ∧ (¬ (f 19 2) ≤ v1 → (vp_in (f 8 3) 13 ∧ ∀ w3 : Nat, w3 = 22 + (f 8 3).toNatClampNeg → (vp_in v1 6 ∧ ∀ g5 : sx_F, g5 = sx_u f w3 v1.toNatClampNeg 0 → (vp_in (g5 8 3) 13 ∧ ∀ w6 : Nat, w6 = 36 + (g5 8 3).toNatClampNeg → (vp_in v1 6 ∧ ∀ g8 : sx_F, g8 = sx_u g5 w6 v1.toNatClampNeg 0 → (∀ y9 : Int32, y9 = v1 + 1 → B6 g8 y9))))))) → B6 f v1) →
  (∀ (f : sx_F) (v1 : Int32), ((v1 < 0 → (P_X3_setLines f (fun g11 => Q g11))) ∧ (¬ v1 < 0 → B66 f v1 0)) → B60 f v1) →
  (∀ (f : sx_F) (v1 : Int32) (v2 : Int32), (((f 19 2) ≤ v2 → (∀ y13 : Int32, y13 = v1 + (-1) → B60 f y13)) ∧ (¬ (f 19 2) ≤ v2 → (P_X3_chooseLine f v1 v2 (fun g14 => (∀ y15 : Int32, y15 = v2 + 1 → B66 g14 v1 y15))))) → B66 f v1 v2) →
  (P_X3_priceTurns f (fun g16 => B6 g16 0))
def P_X3_leastCost (f : sx_F)  (Q : Int32 → Prop) : Prop :=
  (vp_in 0 13 ∧ ∀ w1 : Nat, w1 = 22 + (0 : Int32).toNatClampNeg → (vp_in 0 6 ∧ Q (f w1 (0 : Int32).toNatClampNeg)))
def P_X3_leastOfAllWays : Nat → sx_F → Int32 → Int32 → Int32 → (Int32 → Prop) → Prop
  | 0, _, _, _, _, _ => False
  | n + 1, f, x1, x2, x3, Q =>
  ∀ (B35 : Int32 → Int32 → Int32 → Prop),
  ∀ (B96 : Int32 → Int32 → Int32 → Prop),
  (∀ (v4 : Int32) (v5 : Int32) (v6 : Int32), (((f 8 3) < v6 → Q v5) ∧ (¬ (f 8 3) < v6 → (P_X3_mayBeLine f x1 v6 (fun r2 => ((r2 = 0 → B96 v4 v5 v6) ∧ (¬ r2 = 0 → (P_X3_badness f x1 v6 (fun r5 => (P_X3_turnAhead f v6 v4 (fun r7 => (∀ y9 : Int32, y9 = (r5 + r7) → (P_X3_leastOfAllWays n f v6 v4 (x3 + 1) (fun r10 => (∀ y12 : Int32, y12 = (if (y9 + r10) < v5 then (y9 + r10) else v5) → B96 v4 y12 v6)))))))))))))) → B35 v4 v5 v6) →
  (∀ (v4 : Int32) (v5 : Int32) (v6 : Int32), (∀ y13 : Int32, y13 = v6 + 1 → B35 v4 v5 y13) → B96 v4 v5 v6) →
  (((f 8 3) ≤ x1 → Q 0) ∧ (¬ (f 8 3) ≤ x1 → ((x3 < 12 → (P_X3_nextOnPage f x2 (fun r16 => (∀ y18 : Int32, y18 = (x1 + 1) → B35 r16 1000000000 y18)))) ∧ (¬ x3 < 12 → Q 0))))
def P_X3_leastByTrying (f : sx_F)  (Q : Int32 → sx_F → Prop) : Prop :=
  (P_X3_priceTurns f (fun g1 => (P_X3_leastOfAllWays 14 g1 0 0 0 (fun r2 => Q r2 g1))))
def P_X3_shrunkAhead (f : sx_F) (x1 : Int32) (x2 : Int32) (x3 : Int32) (x4 : Int32) (Q : Int32 → Prop) : Prop :=
  (P_X0_widthOf f x1 x2 (fun r1 => (P_X0_leastOf f x1 x2 (fun r3 => (∀ y5 : Int32, y5 = (r1 - r3) → ((y5 ≤ 0 → Q 0) ∧ (¬ y5 ≤ 0 → (¬ y5 = 0 ∧ Q (((if y5 < x3 then y5 else x3) * x4) / y5)))))))))
def P_X3_stretchedAhead (f : sx_F) (x1 : Int32) (x2 : Int32) (x3 : Int32) (x4 : Int32) (Q : Int32 → Prop) : Prop :=
  (vp_in x2 13 ∧ (vp_in x1 13 ∧ (∀ y1 : Int32, y1 = ((f 17 x2.toNatClampNeg) - (f 17 x1.toNatClampNeg)) → ((y1 ≤ 0 → Q 0) ∧ (¬ y1 ≤ 0 → (¬ y1 = 0 ∧ Q ((x3 * x4) / y1)))))))
def P_X3_springAt (f : sx_F) (x1 : Int32) (x2 : Int32) (Q : Int32 → Prop) : Prop :=
  (vp_in x1 12 ∧ (∀ y1 : Int32, y1 = (f 64 x1.toNatClampNeg) → (vp_in y1 13 ∧ (∀ y2 : Int32, y2 = (f 63 y1.toNatClampNeg) → (vp_in (y1 + 1) 13 ∧ (∀ y3 : Int32, y3 = (f 63 (y1 + 1).toNatClampNeg) → (vp_in x1 13 ∧ (vp_in y2 13 ∧ (vp_in x2 33 ∧ (∀ y4 : Int32, y4 = (((f 17 x1.toNatClampNeg) - (f 17 y2.toNatClampNeg)) + (f 11 x2.toNatClampNeg)) → (vp_in x1 13 ∧ (vp_in y2 13 ∧ (vp_in x2 33 ∧ (∀ y5 : Int32, y5 = (((f 18 x1.toNatClampNeg) - (f 18 y2.toNatClampNeg)) + (f 12 x2.toNatClampNeg)) → (∀ y6 : Int32, y6 = (((8 * (x1 - y2)) + 4) + y4) → (P_X0_widthOf f y2 y3 (fun r7 => (∀ y9 : Int32, y9 = (r7 - (f 19 1)) → ((y9 ≤ 0 → ((y3 = (f 8 3) → Q y6) ∧ (¬ y3 = (f 8 3) → (P_X3_stretchedAhead f y2 y3 (-y9) y4 (fun r12 => Q (y6 + r12)))))) ∧ (¬ y9 ≤ 0 → (P_X3_shrunkAhead f y2 y3 y9 (y4 - y5) (fun r14 => Q (y6 - r14)))))))))))))))))))))))
def P_X4_addBar (f : sx_F) (x1 : Int32) (Q : Int32 → sx_F → Prop) : Prop :=
  (vp_in (f 1 0) 12 ∧ ∀ g1 : sx_F, g1 = sx_u f 2 (f 1 0).toNatClampNeg x1 → (vp_in (g1 1 0) 13 ∧ (vp_in ((g1 1 0) + 1) 13 ∧ ∀ g2 : sx_F, g2 = sx_u g1 3 ((g1 1 0) + 1).toNatClampNeg ((g1 3 (g1 1 0).toNatClampNeg) + x1) → (∀ g3 : sx_F, g3 = sx_u g2 1 0 ((g2 1 0) + 1) → Q ((g3 1 0) - 1) g3))))
def P_X4_addNote (f : sx_F) (x1 : Int32) (x2 : Int32) (x3 : Int32) (Q : Int32 → sx_F → Prop) : Prop :=
  (vp_in x1 60 ∧ (∀ y1 : Int32, y1 = ((x1 * 8) + (f 5 x1.toNatClampNeg)) → (vp_in y1 480 ∧ ∀ g2 : sx_F, g2 = sx_u f 6 y1.toNatClampNeg x2 → (vp_in y1 480 ∧ ∀ g3 : sx_F, g3 = sx_u g2 7 y1.toNatClampNeg x3 → (vp_in x1 60 ∧ (vp_in x1 60 ∧ ∀ g4 : sx_F, g4 = sx_u g3 5 x1.toNatClampNeg ((g3 5 x1.toNatClampNeg) + 1) → (vp_in x1 60 ∧ (vp_in x1 60 ∧ ∀ g5 : sx_F, g5 = sx_u g4 4 x1.toNatClampNeg ((g4 4 x1.toNatClampNeg) + 1) → (vp_in x1 60 ∧ Q (g5 5 x1.toNatClampNeg) g5)))))))))
def P_X4_changePitch (f : sx_F) (x1 : Int32) (x2 : Int32) (x3 : Int32) (Q : Int32 → sx_F → Prop) : Prop :=
  (∀ y1 : Int32, y1 = ((x1 * 8) + x2) → (vp_in y1 480 ∧ (∀ y2 : Int32, y2 = (f 7 y1.toNatClampNeg) → ((y2 = x3 → Q y2 f) ∧ (¬ y2 = x3 → (vp_in y1 480 ∧ ∀ g4 : sx_F, g4 = sx_u f 7 y1.toNatClampNeg x3 → (vp_in x1 60 ∧ (vp_in x1 60 ∧ ∀ g5 : sx_F, g5 = sx_u g4 4 x1.toNatClampNeg ((g4 4 x1.toNatClampNeg) + 1) → Q y2 g5))))))))
def P_X4_takeNotes (f : sx_F) (x1 : Int32) (Q : Int32 → sx_F → Prop) : Prop :=
  (vp_in x1 60 ∧ (∀ y1 : Int32, y1 = (f 5 x1.toNatClampNeg) → ((y1 ≤ 0 → Q y1 f) ∧ (¬ y1 ≤ 0 → (vp_in x1 60 ∧ ∀ g3 : sx_F, g3 = sx_u f 5 x1.toNatClampNeg 0 → (vp_in x1 60 ∧ (vp_in x1 60 ∧ ∀ g4 : sx_F, g4 = sx_u g3 4 x1.toNatClampNeg ((g3 4 x1.toNatClampNeg) + 1) → Q y1 g4)))))))
def P_X4_filled (f : sx_F) (x1 : Int32) (Q : Int32 → Prop) : Prop :=
  ∀ (B4 : Int32 → Int32 → Prop),
  (∀ (v2 : Int32) (v3 : Int32), (vp_in x1 60 ∧ (((f 5 x1.toNatClampNeg) ≤ v3 → Q v2) ∧ (¬ (f 5 x1.toNatClampNeg) ≤ v3 → (P_X4_lengthAt f x1 v3 (fun r2 => (∀ y4 : Int32, y4 = (v2 + r2) → (∀ y5 : Int32, y5 = v3 + 1 → B4 y4 y5))))))) → B4 v2 v3) →
  B4 0 0
def P_X4_countTime (f : sx_F) (x1 : Int32) (Q : Int32 → Prop) : Prop :=
  ∀ (B4 : Int32 → Int32 → Prop),
  (∀ (v2 : Int32) (v3 : Int32), ((x1 ≤ v3 → Q v2) ∧ (¬ x1 ≤ v3 → (vp_in v3 12 ∧ (∀ y2 : Int32, y2 = (v2 + (f 2 v3.toNatClampNeg)) → (∀ y3 : Int32, y3 = v3 + 1 → B4 y2 y3))))) → B4 v2 v3) →
  B4 0 0
def P_X6_needValue (f : sx_F) (x0 : Int32) (x1 : Int32) (x2 : Int32) (Q : Prop) (X : String → Prop) : Prop :=
  ∀ (B10 : Prop),
  (X "java/lang/IllegalArgumentException" → B10 ) →
  ((x0 < x1 → B10) ∧ (¬ x0 < x1 → ((x0 ≤ x2 → Q) ∧ (¬ x0 ≤ x2 → B10))))
def P_X6_bar (f : sx_F) (x1 : Int32) (Q : Int32 → sx_F → Prop) (X : String → sx_F → Prop) : Prop :=
  (P_X6_needValue f x1 1 32 ((((f 1 0) < 12 → (P_X4_addBar f x1 (fun r4 g3 => Q r4 g3))) ∧ (¬ (f 1 0) < 12 → X "java/lang/IllegalStateException" f))) (fun E => X E f))
def P_X6_needIndex (f : sx_F) (x0 : Int32) (x1 : Int32) (Q : Prop) (X : String → Prop) : Prop :=
  ∀ (B9 : Prop),
  (X "java/lang/IndexOutOfBoundsException" → B9 ) →
  ((x0 < 0 → B9) ∧ (¬ x0 < 0 → ((x0 < x1 → Q) ∧ (¬ x0 < x1 → B9))))
def P_X6_needSlot (f : sx_F) (x1 : Int32) (x2 : Int32) (Q : Int32 → Prop) (X : String → Prop) : Prop :=
  (P_X6_needIndex f x1 5 ((P_X6_needIndex f x2 (f 1 0) ((P_X6_slotOf f x1 x2 (fun r3 => Q r3))) X)) X)
def P_X6_note (f : sx_F) (x1 : Int32) (x2 : Int32) (x3 : Int32) (x4 : Int32) (Q : Int32 → sx_F → Prop) (X : String → sx_F → Prop) : Prop :=
  (P_X6_needSlot f x1 x2 (fun r1 => (P_X6_needValue f x3 1 32 ((P_X6_needValue f x4 0 60 ((vp_in r1 60 ∧ (((f 5 r1.toNatClampNeg) < 8 → (P_X4_filled f r1 (fun r6 => (vp_in x2 12 ∧ (((r6 + x3) ≤ (f 2 x2.toNatClampNeg) → (P_X4_addNote f r1 x3 x4 (fun r10 g9 => Q r10 g9))) ∧ (¬ (r6 + x3) ≤ (f 2 x2.toNatClampNeg) → X "java/lang/IllegalStateException" f)))))) ∧ (¬ (f 5 r1.toNatClampNeg) < 8 → X "java/lang/IllegalStateException" f)))) (fun E => X E f))) (fun E => X E f))) (fun E => X E f))
def P_X6_mend (f : sx_F) (x1 : Int32) (x2 : Int32) (x3 : Int32) (x4 : Int32) (Q : Int32 → sx_F → Prop) (X : String → sx_F → Prop) : Prop :=
  (P_X6_needSlot f x1 x2 (fun r1 => (vp_in r1 60 ∧ (P_X6_needIndex f x3 (f 5 r1.toNatClampNeg) ((P_X6_needValue f x4 0 60 ((P_X4_changePitch f r1 x3 x4 (fun r6 g5 => Q r6 g5))) (fun E => X E f))) (fun E => X E f)))) (fun E => X E f))
def P_X6_empty (f : sx_F) (x1 : Int32) (x2 : Int32) (Q : Int32 → sx_F → Prop) (X : String → sx_F → Prop) : Prop :=
  (P_X6_needSlot f x1 x2 (fun r1 => (P_X4_takeNotes f r1 (fun r4 g3 => Q r4 g3))) (fun E => X E f))
def P_X6_setPaper (f : sx_F) (x1 : Int32) (x2 : Int32) (Q : Int32 → sx_F → Prop) (X : String → sx_F → Prop) : Prop :=
  (P_X6_needValue f x1 80 500 ((P_X6_needValue f x2 1 6 ((∀ y3 : Int32, y3 = (f 19 1) → (∀ g4 : sx_F, g4 = sx_u f 19 1 x1 → (∀ g5 : sx_F, g5 = sx_u g4 19 2 x2 → Q y3 g5)))) (fun E => X E f))) (fun E => X E f))
def P_X6_copy (f : sx_F) (x1 : Int32) (Q : Int32 → sx_F → Prop) (X : String → sx_F → Prop) : Prop :=
  (P_X6_needIndex f x1 5 ((((f 0 5) < 16 → (vp_in (f 0 5) 16 ∧ ∀ w3 : Nat, w3 = 66 + 2 * (f 0 5).toNatClampNeg → (∀ g5 : sx_F, g5 = sx_u f w3 1 x1 → (∀ g6 : sx_F, g6 = sx_u g5 0 5 ((g5 0 5) + 1) → Q ((g6 0 5) - 1) g6)))) ∧ (¬ (f 0 5) < 16 → X "java/lang/IllegalStateException" f))) (fun E => X E f))
def P_X6_deskHasPart (f : sx_F) (x1 : Int32) (x2 : Int32) (Q : Int32 → Prop) : Prop :=
  ∀ (B2 : Int32 → Prop),
  ∀ (B38 : Int32 → Prop),
  (∀ (v3 : Int32), (((f 0 5) ≤ v3 → Q 0) ∧ (¬ (f 0 5) ≤ v3 → (vp_in v3 16 ∧ ∀ w2 : Nat, w2 = 66 + 2 * v3.toNatClampNeg → (((f w2 2) = x1 → (vp_in v3 16 ∧ ∀ w5 : Nat, w5 = 66 + 2 * v3.toNatClampNeg → (((f w5 1) = x2 → Q 1) ∧ (¬ (f w5 1) = x2 → B38 v3)))) ∧ (¬ (f w2 2) = x1 → B38 v3))))) → B2 v3) →
  (∀ (v3 : Int32), (∀ y8 : Int32, y8 = v3 + 1 → B2 y8) → B38 v3) →
  B2 0
def P_X6_copiesOut (f : sx_F)  (Q : Int32 → Prop) : Prop :=
  ∀ (B4 : Int32 → Int32 → Prop),
  ∀ (B27 : Int32 → Int32 → Prop),
  (∀ (v1 : Int32) (v2 : Int32), (((f 0 5) ≤ v2 → Q v1) ∧ (¬ (f 0 5) ≤ v2 → (vp_in v2 16 ∧ ∀ w2 : Nat, w2 = 66 + 2 * v2.toNatClampNeg → (P_X1_isOut f w2 (fun r4 => ((r4 = 0 → B27 v1 v2) ∧ (¬ r4 = 0 → (∀ y7 : Int32, y7 = v1 + 1 → B27 y7 v2)))))))) → B4 v1 v2) →
  (∀ (v1 : Int32) (v2 : Int32), (∀ y8 : Int32, y8 = v2 + 1 → B4 v1 y8) → B27 v1 v2) →
  B4 0 0
def P_X6_lend (f : sx_F) (x1 : Int32) (x2 : Int32) (Q : Int32 → sx_F → Prop) (X : String → sx_F → Prop) : Prop :=
  (P_X6_needIndex f x1 (f 0 5) ((P_X6_needIndex f x2 6 ((vp_in x1 16 ∧ ∀ w3 : Nat, w3 = 66 + 2 * x1.toNatClampNeg → (P_X1_isOut f w3 (fun r5 => ((r5 = 0 → (P_X6_deskHasPart f x2 (f w3 1) (fun r8 => ((r8 = 0 → (∀ g11 : sx_F, g11 = sx_u f w3 2 x2 → (P_X1_takeVersions g11 w3 (fun g12 => (P_X6_copiesOut g12 (fun r13 => Q r13 g12)))))) ∧ (¬ r8 = 0 → X "java/lang/IllegalStateException" f))))) ∧ (¬ r5 = 0 → X "java/lang/IllegalStateException" f)))))) (fun E => X E f))) (fun E => X E f))
def P_X6_needCopyOut (f : sx_F) (x1 : Int32) (Q : Nat → Prop) (X : String → Prop) : Prop :=
  (P_X6_needIndex f x1 (f 0 5) ((vp_in x1 16 ∧ ∀ w2 : Nat, w2 = 66 + 2 * x1.toNatClampNeg → (P_X1_isOut f w2 (fun r4 => ((r4 = 0 → X "java/lang/IllegalStateException") ∧ (¬ r4 = 0 → Q w2)))))) X)
def P_X6_giveBack (f : sx_F) (x1 : Int32) (Q : Int32 → sx_F → Prop) (X : String → sx_F → Prop) : Prop :=
  (P_X6_needCopyOut f x1 (fun r1 => (P_X1_countDebts f r1 (fun r3 => (∀ g5 : sx_F, g5 = sx_u f r1 2 (-1) → Q r3 g5)))) (fun E => X E f))
def P_X6_paste (f : sx_F) (x1 : Int32) (Q : Int32 → sx_F → Prop) (X : String → sx_F → Prop) : Prop :=
  (P_X6_needCopyOut f x1 (fun r1 => (P_X1_countDebts f r1 (fun r3 => (P_X1_takeVersions f r1 (fun g5 => Q r3 g5))))) (fun E => X E f))
def P_X6_mark (f : sx_F) (x1 : Int32) (x2 : Int32) (x3 : Int32) (Q : Int32 → sx_F → Prop) (X : String → sx_F → Prop) : Prop :=
  (P_X6_needIndex f x1 (f 0 5) ((P_X6_needIndex f x2 (f 1 0) ((P_X6_needValue f x3 0 9 ((P_X6_needCopyOut f x1 (fun r4 => (P_X1_lacks f r4 x2 (fun r6 => ((r6 = 0 → (P_X6_slotOf f (f r4 1) x2 (fun r9 => (vp_in (f r4 2) 6 ∧ ∀ w11 : Nat, w11 = 99 + 5 * (f r4 2).toNatClampNeg → (P_X1_versionOf f r4 x2 (fun r13 => (P_X2_changeMark f w11 r9 x3 r13 (fun r16 g15 => Q r16 g15)))))))) ∧ (¬ r6 = 0 → X "java/lang/IllegalStateException" f))))) (fun E => X E f))) (fun E => X E f))) (fun E => X E f))) (fun E => X E f))
def P_X6_bow (f : sx_F) (x1 : Int32) (x2 : Int32) (x3 : Int32) (x4 : Int32) (Q : Int32 → sx_F → Prop) (X : String → sx_F → Prop) : Prop :=
  (P_X6_needIndex f x1 (f 0 5) ((vp_in x1 16 ∧ ∀ w2 : Nat, w2 = 66 + 2 * x1.toNatClampNeg → (P_X6_needSlot f (f w2 1) x2 (fun r4 => (vp_in r4 60 ∧ (P_X6_needIndex f x3 (f 5 r4.toNatClampNeg) ((P_X6_needValue f x4 0 2 ((P_X6_needCopyOut f x1 (fun r8 => (P_X1_owes f r8 x2 (fun r10 => ((r10 = 0 → (vp_in (f r8 2) 6 ∧ ∀ w13 : Nat, w13 = 99 + 5 * (f r8 2).toNatClampNeg → (vp_in r4 60 ∧ (P_X2_changeBowing f w13 r4 x3 x4 (f 4 r4.toNatClampNeg) (fun r16 g15 => Q r16 g15))))) ∧ (¬ r10 = 0 → X "java/lang/IllegalStateException" f))))) (fun E => X E f))) (fun E => X E f))) (fun E => X E f)))) (fun E => X E f)))) (fun E => X E f))
def P_X6_anyCopyOwes (f : sx_F)  (Q : Int32 → Prop) : Prop :=
  ∀ (B2 : Int32 → Prop),
  (∀ (v1 : Int32), (((f 0 5) ≤ v1 → Q 0) ∧ (¬ (f 0 5) ≤ v1 → (vp_in v1 16 ∧ ∀ w2 : Nat, w2 = 66 + 2 * v1.toNatClampNeg → (P_X1_countDebts f w2 (fun r4 => ((r4 ≤ 0 → (∀ y7 : Int32, y7 = v1 + 1 → B2 y7)) ∧ (¬ r4 ≤ 0 → Q 1))))))) → B2 v1) →
  B2 0
def P_X6_play (f : sx_F)  (Q : Int32 → sx_F → Prop) (X : String → sx_F → Prop) : Prop :=
  (P_X6_copiesOut f (fun r1 => ((r1 = 0 → X "java/lang/IllegalStateException" f) ∧ (¬ r1 = 0 → (P_X6_anyCopyOwes f (fun r4 => ((r4 = 0 → (∀ g7 : sx_F, g7 = sx_u f 0 6 ((f 0 6) + 1) → Q r1 g7)) ∧ (¬ r4 = 0 → X "java/lang/IllegalStateException" f))))))))
def P_X6_bars (f : sx_F)  (Q : Int32 → Prop) : Prop :=
  Q (f 1 0)
def P_X6_notes (f : sx_F) (x1 : Int32) (x2 : Int32) (Q : Int32 → Prop) (X : String → Prop) : Prop :=
  (P_X6_needSlot f x1 x2 (fun r1 => (vp_in r1 60 ∧ Q (f 5 r1.toNatClampNeg))) X)
def P_X6_noteAt (f : sx_F) (x1 : Int32) (x2 : Int32) (x3 : Int32) (Q : Int32 → Prop) (X : String → Prop) : Prop :=
  (P_X6_needSlot f x1 x2 (fun r1 => (vp_in r1 60 ∧ (P_X6_needIndex f x3 (f 5 r1.toNatClampNeg) ((P_X4_lengthAt f r1 x3 (fun r4 => (P_X4_pitchAt f r1 x3 (fun r6 => Q ((100 * r4) + r6)))))) X))) X)
def P_X6_version (f : sx_F) (x1 : Int32) (x2 : Int32) (Q : Int32 → Prop) (X : String → Prop) : Prop :=
  (P_X6_needSlot f x1 x2 (fun r1 => (vp_in r1 60 ∧ Q (f 4 r1.toNatClampNeg))) X)
def P_X6_time (f : sx_F) (x1 : Int32) (Q : Int32 → Prop) (X : String → Prop) : Prop :=
  (P_X6_needIndex f x1 ((f 1 0) + 1) ((vp_in x1 13 ∧ Q (f 3 x1.toNatClampNeg))) X)
def P_X6_timeByBars (f : sx_F) (x1 : Int32) (Q : Int32 → Prop) (X : String → Prop) : Prop :=
  (P_X6_needIndex f x1 ((f 1 0) + 1) ((P_X4_countTime f x1 (fun r2 => Q r2))) X)
def P_X6_openBook (f : sx_F) (x1 : Int32) (Q : sx_F → Prop) (X : String → sx_F → Prop) : Prop :=
  (P_X6_needIndex f x1 6 ((P_X0_gather f x1 (fun g2 => Q g2))) (fun E => X E f))
def P_X6_items (f : sx_F) (x1 : Int32) (Q : Int32 → sx_F → Prop) (X : String → sx_F → Prop) : Prop :=
  (P_X6_openBook f x1 (fun g1 => Q (g1 8 3) g1) X)
def P_X6_itemOf (f : sx_F) (x1 : Int32) (x2 : Int32) (Q : Int32 → sx_F → Prop) (X : String → sx_F → Prop) : Prop :=
  (P_X6_openBook f x1 (fun g1 => (P_X6_needIndex g1 x2 (g1 1 0) ((vp_in x2 12 ∧ Q (g1 15 x2.toNatClampNeg) g1)) (fun E => X E g1))) X)
def P_X6_cue (f : sx_F) (x1 : Int32) (x2 : Int32) (Q : Int32 → Prop) (X : String → Prop) : Prop :=
  (P_X6_needSlot f x1 x2 (fun r1 => (P_X4_cuePlayer f x1 x2 (fun r3 => Q r3))) X)
def P_X6_width (f : sx_F) (x1 : Int32) (x2 : Int32) (Q : Int32 → sx_F → Prop) (X : String → sx_F → Prop) : Prop :=
  (P_X6_openBook f x1 (fun g1 => (P_X6_needIndex g1 x2 (g1 8 3) ((P_X0_widthOf g1 x2 (x2 + 1) (fun r3 => Q r3 g1))) (fun E => X E g1))) X)
def P_X6_breakBook (f : sx_F) (x1 : Int32) (Q : sx_F → Prop) (X : String → sx_F → Prop) : Prop :=
  (P_X6_needIndex f x1 6 ((P_X0_gather f x1 (fun g2 => (P_X3_breakLines g2 (fun g3 => Q g3))))) (fun E => X E f))
def P_X6_lines (f : sx_F) (x1 : Int32) (Q : Int32 → sx_F → Prop) (X : String → sx_F → Prop) : Prop :=
  (P_X6_breakBook f x1 (fun g1 => Q (g1 19 7) g1) X)
def P_X6_lineOf (f : sx_F) (x1 : Int32) (x2 : Int32) (Q : Int32 → sx_F → Prop) (X : String → sx_F → Prop) : Prop :=
  (P_X6_breakBook f x1 (fun g1 => (P_X6_needIndex g1 x2 (g1 1 0) ((vp_in x2 12 ∧ (vp_in (g1 15 x2.toNatClampNeg) 12 ∧ Q (g1 64 (g1 15 x2.toNatClampNeg).toNatClampNeg) g1))) (fun E => X E g1))) X)
def P_X6_cost (f : sx_F) (x1 : Int32) (Q : Int32 → sx_F → Prop) (X : String → sx_F → Prop) : Prop :=
  (P_X6_breakBook f x1 (fun g1 => (P_X3_leastCost g1 (fun r2 => Q r2 g1))) X)
def P_X6_costByAll (f : sx_F) (x1 : Int32) (Q : Int32 → sx_F → Prop) (X : String → sx_F → Prop) : Prop :=
  (P_X6_openBook f x1 (fun g1 => (P_X3_leastByTrying g1 (fun r3 g2 => Q r3 g2))) X)
def P_X6_turns (f : sx_F) (x1 : Int32) (Q : Int32 → sx_F → Prop) (X : String → sx_F → Prop) : Prop :=
  (P_X6_breakBook f x1 (fun g1 => Q (g1 19 8) g1) X)
def P_X6_place (f : sx_F) (x1 : Int32) (x2 : Int32) (x3 : Int32) (Q : Int32 → sx_F → Prop) (X : String → sx_F → Prop) : Prop :=
  (P_X6_breakBook f x1 (fun g1 => (P_X6_needIndex g1 x2 (g1 1 0) ((P_X0_drawSpring g1 x2 x3 (fun r4 g3 => ((r4 = (-1) → X "java/lang/IndexOutOfBoundsException" g3) ∧ (¬ r4 = (-1) → (vp_in x2 12 ∧ (P_X3_springAt g3 (g3 15 x2.toNatClampNeg) r4 (fun r6 => Q r6 g3)))))))) (fun E => X E g1))) X)
def P_X6_copies (f : sx_F)  (Q : Int32 → Prop) : Prop :=
  Q (f 0 5)
def P_X6_deskOf (f : sx_F) (x1 : Int32) (Q : Int32 → Prop) (X : String → Prop) : Prop :=
  (P_X6_needIndex f x1 (f 0 5) ((vp_in x1 16 ∧ ∀ w2 : Nat, w2 = 66 + 2 * x1.toNatClampNeg → Q (f w2 2))) X)
def P_X6_has (f : sx_F) (x1 : Int32) (x2 : Int32) (Q : Int32 → Prop) (X : String → Prop) : Prop :=
  (P_X6_needIndex f x1 (f 0 5) ((P_X6_needIndex f x2 (f 1 0) ((vp_in x1 16 ∧ ∀ w3 : Nat, w3 = 66 + 2 * x1.toNatClampNeg → (P_X1_versionOf f w3 x2 (fun r5 => Q r5)))) X)) X)
def P_X6_owed (f : sx_F) (x1 : Int32) (Q : Int32 → Prop) (X : String → Prop) : Prop :=
  (P_X6_needIndex f x1 (f 0 5) ((vp_in x1 16 ∧ ∀ w2 : Nat, w2 = 66 + 2 * x1.toNatClampNeg → (P_X1_countDebts f w2 (fun r4 => Q r4)))) X)
def P_X6_markOf (f : sx_F) (x1 : Int32) (x2 : Int32) (x3 : Int32) (Q : Int32 → Prop) (X : String → Prop) : Prop :=
  (P_X6_needIndex f x1 6 ((vp_in x1 6 ∧ ∀ w2 : Nat, w2 = 99 + 5 * x1.toNatClampNeg → (P_X6_needSlot f x2 x3 (fun r4 => (vp_in r4 60 ∧ Q (f (w2 + 1) r4.toNatClampNeg))) X))) X)
def P_X6_oldMarks (f : sx_F) (x1 : Int32) (Q : Int32 → Prop) (X : String → Prop) : Prop :=
  (P_X6_needIndex f x1 6 ((vp_in x1 6 ∧ ∀ w2 : Nat, w2 = 99 + 5 * x1.toNatClampNeg → (P_X2_countOldMarks f w2 (fun r4 => Q r4)))) X)
def P_X6_clashesAt (f : sx_F) (o1 : Nat) (o2 : Nat) (x3 : Int32) (Q : Int32 → Prop) : Prop :=
  ∀ (B6 : Int32 → Int32 → Prop),
  ∀ (B41 : Int32 → Int32 → Int32 → Int32 → Int32 → Prop),
  ∀ (B100 : Int32 → Int32 → Int32 → Int32 → Int32 → Prop),
  (∀ (v4 : Int32) (v5 : Int32), (((f 1 0) ≤ v5 → Q v4) ∧ (¬ (f 1 0) ≤ v5 → (P_X6_slotOf f x3 v5 (fun r2 => (vp_in r2 60 ∧ (∀ y4 : Int32, y4 = (f 4 r2.toNatClampNeg) → B41 v4 v5 r2 y4 0)))))) → B6 v4 v5) →
  (∀ (v4 : Int32) (v5 : Int32) (v6 : Int32) (v7 : Int32) (v8 : Int32), (vp_in v6 60 ∧ (((f 5 v6.toNatClampNeg) ≤ v8 → (∀ y6 : Int32, y6 = v5 + 1 → B6 v4 y6)) ∧ (¬ (f 5 v6.toNatClampNeg) ≤ v8 → (P_X2_bowingAt f o1 v6 v8 v7 (fun r7 => (P_X2_bowingAt f o2 v6 v8 v7 (fun r9 => ((r7 = 0 → B100 v4 v5 v6 v7 v8) ∧ (¬ r7 = 0 → ((r9 = 0 → B100 v4 v5 v6 v7 v8) ∧ (¬ r9 = 0 → ((r7 = r9 → B100 v4 v5 v6 v7 v8) ∧ (¬ r7 = r9 → (∀ y14 : Int32, y14 = v4 + 1 → B100 y14 v5 v6 v7 v8)))))))))))))) → B41 v4 v5 v6 v7 v8) →
  (∀ (v4 : Int32) (v5 : Int32) (v6 : Int32) (v7 : Int32) (v8 : Int32), (∀ y15 : Int32, y15 = v8 + 1 → B41 v4 v5 v6 v7 y15) → B100 v4 v5 v6 v7 v8) →
  B6 0 0
def P_X6_clashes (f : sx_F) (x1 : Int32) (Q : Int32 → Prop) (X : String → Prop) : Prop :=
  ∀ (B9 : Int32 → Int32 → Prop),
  (∀ (v2 : Int32) (v3 : Int32), ((3 ≤ v3 → Q v2) ∧ (¬ 3 ≤ v3 → (vp_in (2 * v3) 6 ∧ ∀ w2 : Nat, w2 = 99 + 5 * (2 * v3).toNatClampNeg → (vp_in ((2 * v3) + 1) 6 ∧ ∀ w4 : Nat, w4 = 99 + 5 * ((2 * v3) + 1).toNatClampNeg → (P_X6_clashesAt f w2 w4 x1 (fun r6 => (∀ y8 : Int32, y8 = (v2 + r6) → (∀ y9 : Int32, y9 = v3 + 1 → B9 y8 y9)))))))) → B9 v2 v3) →
  (P_X6_needIndex f x1 5 (B9 0 0) X)
def P_X6_concerts (f : sx_F)  (Q : Int32 → Prop) : Prop :=
  Q (f 0 6)
end
section
def P_X7_thrown (f : sx_F)  (Q : Int32 → Prop) : Prop :=
  Q (f 0 33)
def P_X7_in (f : sx_F) (x0 : Int32) (x1 : Int32) (x2 : Int32) (Q : Int32 → Prop) : Prop :=
  ((x0 < x1 → Q 0) ∧ (¬ x0 < x1 → ((x2 < x0 → Q 0) ∧ (¬ x2 < x0 → Q 1))))
def P_X7_goes (f : sx_F) (x1 : Int32) (x2 : Int32) (x3 : Int32) (Q : Int32 → sx_F → Prop) : Prop :=
  ∀ (B26 : sx_F → Int32 → Prop),
  (∀ (f : sx_F) (s1 : Int32), (∀ g1 : sx_F, g1 = sx_u f 0 33 s1 → (((g1 0 33) = 0 → Q 1 g1) ∧ (¬ (g1 0 33) = 0 → Q 0 g1))) → B26 f s1) →
  ((x1 = 0 → B26 f 1) ∧ (¬ x1 = 0 → ((x2 = 0 → B26 f 2) ∧ (¬ x2 = 0 → ((x3 = 0 → B26 f 3) ∧ (¬ x3 = 0 → B26 f 0))))))
def P_X7_isInstrument (f : sx_F) (x0 : Int32) (Q : Int32 → Prop) : Prop :=
  (P_X7_in f x0 0 4 (fun r1 => ((r1 = 0 ∨ r1 = 1) ∧ Q r1)))
def P_X7_isBar (f : sx_F) (x1 : Int32) (Q : Int32 → Prop) : Prop :=
  (P_X7_in f x1 0 ((f 0 5) - 1) (fun r1 => ((r1 = 0 ∨ r1 = 1) ∧ Q r1)))
def P_X7_isBook (f : sx_F) (x0 : Int32) (Q : Int32 → Prop) : Prop :=
  (P_X7_in f x0 0 5 (fun r1 => ((r1 = 0 ∨ r1 = 1) ∧ Q r1)))
def P_X7_isCopy (f : sx_F) (x1 : Int32) (Q : Int32 → Prop) : Prop :=
  (P_X7_in f x1 0 ((f 0 11) - 1) (fun r1 => ((r1 = 0 ∨ r1 = 1) ∧ Q r1)))
def P_X7_cell (f : sx_F) (x0 : Int32) (x1 : Int32) (Q : Int32 → Prop) : Prop :=
  Q ((12 * x0) + x1)
def P_X7_bar (f : sx_F) (x1 : Int32) (Q : Int32 → sx_F → Prop) : Prop :=
  ∀ (B22 : sx_F → Int32 → Int32 → Prop),
  (∀ (f : sx_F) (s1 : Int32) (s2 : Int32), (P_X7_goes f s1 s2 1 (fun r2 g1 => ((r2 = 0 → Q 0 g1) ∧ (¬ r2 = 0 → (vp_in (g1 0 5) 12 ∧ ∀ g4 : sx_F, g4 = sx_u g1 1 (g1 0 5).toNatClampNeg x1 → (∀ g5 : sx_F, g5 = sx_u g4 0 5 ((g4 0 5) + 1) → Q ((g5 0 5) - 1) g5)))))) → B22 f s1 s2) →
  (P_X7_in f x1 1 32 (fun r6 => ((12 ≤ (f 0 5) → B22 f r6 0) ∧ (¬ 12 ≤ (f 0 5) → B22 f r6 1))))
def P_X7_filled (f : sx_F) (x1 : Int32) (x2 : Int32) (Q : Int32 → Prop) : Prop :=
  ∀ (B5 : Int32 → Int32 → Prop),
  (∀ (v3 : Int32) (v4 : Int32), ((x2 ≤ v4 → Q v3) ∧ (¬ x2 ≤ v4 → (vp_in ((8 * x1) + v4) 480 ∧ (∀ y2 : Int32, y2 = (v3 + (f 2 ((8 * x1) + v4).toNatClampNeg)) → (∀ y3 : Int32, y3 = v4 + 1 → B5 y2 y3))))) → B5 v3 v4) →
  B5 0 0
def P_X7_note (f : sx_F) (x1 : Int32) (x2 : Int32) (x3 : Int32) (x4 : Int32) (Q : Int32 → sx_F → Prop) : Prop :=
  ∀ (B19 : sx_F → Prop),
  ∀ (B20 : sx_F → Int32 → Prop),
  ∀ (B47 : sx_F → Int32 → Prop),
  ∀ (B48 : sx_F → Int32 → Int32 → Prop),
  ∀ (B64 : sx_F → Int32 → Int32 → Int32 → Prop),
  ∀ (B116 : sx_F → Int32 → Int32 → Int32 → Prop),
  ∀ (B117 : sx_F → Int32 → Int32 → Int32 → Int32 → Prop),
  (∀ (f : sx_F), B20 f 0 → B19 f) →
  (∀ (f : sx_F) (s0 : Int32), (P_X7_in f x3 1 32 (fun r1 => ((r1 = 0 → B47 f s0) ∧ (¬ r1 = 0 → (P_X7_in f x4 0 60 (fun r4 => ((r4 = 0 → B47 f s0) ∧ (¬ r4 = 0 → B48 f s0 1)))))))) → B20 f s0) →
  (∀ (f : sx_F) (v5 : Int32), B48 f v5 0 → B47 f v5) →
  (∀ (f : sx_F) (v5 : Int32) (s0 : Int32), ((v5 = 0 → B64 f v5 s0 0) ∧ (¬ v5 = 0 → (P_X7_cell f x1 x2 (fun r8 => B64 f v5 s0 r8)))) → B48 f v5 s0) →
  (∀ (f : sx_F) (v5 : Int32) (v6 : Int32) (s0 : Int32), ((v5 = 0 → B116 f v5 v6 s0) ∧ (¬ v5 = 0 → (vp_in s0 60 ∧ ((8 ≤ (f 4 s0.toNatClampNeg) → B116 f v5 v6 s0) ∧ (¬ 8 ≤ (f 4 s0.toNatClampNeg) → ((v6 = 0 → B116 f v5 v6 s0) ∧ (¬ v6 = 0 → (vp_in s0 60 ∧ (P_X7_filled f s0 (f 4 s0.toNatClampNeg) (fun r13 => (vp_in x2 12 ∧ (((f 1 x2.toNatClampNeg) < (r13 + x3) → B116 f v5 v6 s0) ∧ (¬ (f 1 x2.toNatClampNeg) < (r13 + x3) → B117 f v5 v6 s0 1))))))))))))) → B64 f v5 v6 s0) →
  (∀ (f : sx_F) (v5 : Int32) (v6 : Int32) (v7 : Int32), B117 f v5 v6 v7 0 → B116 f v5 v6 v7) →
  (∀ (f : sx_F) (v5 : Int32) (v6 : Int32) (v7 : Int32) (s0 : Int32), (P_X7_goes f v5 v6 s0 (fun r17 g16 => ((r17 = 0 → Q 0 g16) ∧ (¬ r17 = 0 → (vp_in v7 60 ∧ (vp_in ((8 * v7) + (g16 4 v7.toNatClampNeg)) 480 ∧ ∀ g19 : sx_F, g19 = sx_u g16 2 ((8 * v7) + (g16 4 v7.toNatClampNeg)).toNatClampNeg x3 → (vp_in v7 60 ∧ (vp_in ((8 * v7) + (g19 4 v7.toNatClampNeg)) 480 ∧ ∀ g20 : sx_F, g20 = sx_u g19 3 ((8 * v7) + (g19 4 v7.toNatClampNeg)).toNatClampNeg x4 → (vp_in v7 60 ∧ (vp_in v7 60 ∧ ∀ g21 : sx_F, g21 = sx_u g20 4 v7.toNatClampNeg ((g20 4 v7.toNatClampNeg) + 1) → (vp_in v7 60 ∧ (vp_in v7 60 ∧ ∀ g22 : sx_F, g22 = sx_u g21 5 v7.toNatClampNeg ((g21 5 v7.toNatClampNeg) + 1) → (vp_in v7 60 ∧ Q (g22 4 v7.toNatClampNeg) g22))))))))))))) → B117 f v5 v6 v7 s0) →
  (P_X7_isInstrument f x1 (fun r23 => ((r23 = 0 → B19 f) ∧ (¬ r23 = 0 → (P_X7_isBar f x2 (fun r26 => ((r26 = 0 → B19 f) ∧ (¬ r26 = 0 → B20 f 1))))))))
def P_X7_isNote (f : sx_F) (x1 : Int32) (x2 : Int32) (x3 : Int32) (Q : Int32 → Prop) : Prop :=
  (P_X7_isInstrument f x1 (fun r1 => ((r1 = 0 → Q 0) ∧ (¬ r1 = 0 → (P_X7_isBar f x2 (fun r4 => ((r4 = 0 → Q 0) ∧ (¬ r4 = 0 → (P_X7_cell f x1 x2 (fun r7 => (vp_in r7 60 ∧ (P_X7_in f x3 0 ((f 4 r7.toNatClampNeg) - 1) (fun r9 => ((r9 = 0 → Q 0) ∧ (¬ r9 = 0 → Q 1)))))))))))))))
def P_X7_mend (f : sx_F) (x1 : Int32) (x2 : Int32) (x3 : Int32) (x4 : Int32) (Q : Int32 → sx_F → Prop) : Prop :=
  ∀ (B84 : sx_F → Int32 → Int32 → Int32 → Int32 → Prop),
  (∀ (f : sx_F) (v7 : Int32) (s1 : Int32) (s2 : Int32) (s3 : Int32), (vp_in s1 60 ∧ ∀ g1 : sx_F, g1 = sx_u f 5 s1.toNatClampNeg (s2 + s3) → Q v7 g1) → B84 f v7 s1 s2 s3) →
  (P_X7_isNote f x1 x2 x3 (fun r2 => (P_X7_in f x4 0 60 (fun r4 => (P_X7_goes f r2 r4 1 (fun r7 g6 => ((r7 = 0 → Q 0 g6) ∧ (¬ r7 = 0 → (P_X7_cell g6 x1 x2 (fun r9 => (vp_in ((8 * r9) + x3) 480 ∧ (∀ y11 : Int32, y11 = (g6 3 ((8 * r9) + x3).toNatClampNeg) → (vp_in ((8 * r9) + x3) 480 ∧ ∀ g12 : sx_F, g12 = sx_u g6 3 ((8 * r9) + x3).toNatClampNeg x4 → (vp_in r9 60 ∧ ((y11 = x4 → B84 g12 y11 r9 (g12 5 r9.toNatClampNeg) 0) ∧ (¬ y11 = x4 → B84 g12 y11 r9 (g12 5 r9.toNatClampNeg) 1))))))))))))))))
def P_X7_empty (f : sx_F) (x1 : Int32) (x2 : Int32) (Q : Int32 → sx_F → Prop) : Prop :=
  ∀ (B20 : sx_F → Prop),
  ∀ (B21 : sx_F → Int32 → Prop),
  ∀ (B69 : sx_F → Int32 → Int32 → Int32 → Int32 → Prop),
  (∀ (f : sx_F), B21 f 0 → B20 f) →
  (∀ (f : sx_F) (s1 : Int32), (P_X7_goes f s1 1 1 (fun r2 g1 => ((r2 = 0 → Q 0 g1) ∧ (¬ r2 = 0 → (P_X7_cell g1 x1 x2 (fun r4 => (vp_in r4 60 ∧ (∀ y6 : Int32, y6 = (g1 4 r4.toNatClampNeg) → (vp_in r4 60 ∧ ∀ g7 : sx_F, g7 = sx_u g1 4 r4.toNatClampNeg 0 → (vp_in r4 60 ∧ ((y6 = 0 → B69 g7 y6 r4 (g7 5 r4.toNatClampNeg) 0) ∧ (¬ y6 = 0 → B69 g7 y6 r4 (g7 5 r4.toNatClampNeg) 1)))))))))))) → B21 f s1) →
  (∀ (f : sx_F) (v4 : Int32) (s1 : Int32) (s2 : Int32) (s3 : Int32), (vp_in s1 60 ∧ ∀ g9 : sx_F, g9 = sx_u f 5 s1.toNatClampNeg (s2 + s3) → Q v4 g9) → B69 f v4 s1 s2 s3) →
  (P_X7_isInstrument f x1 (fun r10 => ((r10 = 0 → B20 f) ∧ (¬ r10 = 0 → (P_X7_isBar f x2 (fun r13 => ((r13 = 0 → B20 f) ∧ (¬ r13 = 0 → B21 f 1))))))))
def P_X7_setPaper (f : sx_F) (x1 : Int32) (x2 : Int32) (Q : Int32 → sx_F → Prop) : Prop :=
  ∀ (B27 : sx_F → Prop),
  ∀ (B28 : sx_F → Int32 → Prop),
  (∀ (f : sx_F), B28 f 0 → B27 f) →
  (∀ (f : sx_F) (s1 : Int32), (P_X7_goes f s1 1 1 (fun r2 g1 => ((r2 = 0 → Q 0 g1) ∧ (¬ r2 = 0 → (∀ y4 : Int32, y4 = (g1 0 6) → (∀ g5 : sx_F, g5 = sx_u g1 0 6 x1 → (∀ g6 : sx_F, g6 = sx_u g5 0 7 x2 → Q y4 g6))))))) → B28 f s1) →
  (P_X7_in f x1 80 500 (fun r7 => ((r7 = 0 → B27 f) ∧ (¬ r7 = 0 → (P_X7_in f x2 1 6 (fun r10 => ((r10 = 0 → B27 f) ∧ (¬ r10 = 0 → B28 f 1))))))))
def P_X7_copy (f : sx_F) (x1 : Int32) (Q : Int32 → sx_F → Prop) : Prop :=
  ∀ (B19 : sx_F → Int32 → Int32 → Prop),
  (∀ (f : sx_F) (s1 : Int32) (s2 : Int32), (P_X7_goes f s1 s2 1 (fun r2 g1 => ((r2 = 0 → Q 0 g1) ∧ (¬ r2 = 0 → (vp_in (g1 0 11) 16 ∧ ∀ g4 : sx_F, g4 = sx_u g1 6 (g1 0 11).toNatClampNeg x1 → (vp_in (g4 0 11) 16 ∧ ∀ g5 : sx_F, g5 = sx_u g4 7 (g4 0 11).toNatClampNeg (-1) → (∀ g6 : sx_F, g6 = sx_u g5 0 11 ((g5 0 11) + 1) → Q ((g6 0 11) - 1) g6))))))) → B19 f s1 s2) →
  (P_X7_isInstrument f x1 (fun r7 => ((16 ≤ (f 0 11) → B19 f r7 0) ∧ (¬ 16 ≤ (f 0 11) → B19 f r7 1))))
def P_X7_away (f : sx_F)  (Q : Int32 → Prop) : Prop :=
  ∀ (B4 : Int32 → Int32 → Prop),
  ∀ (B28 : Int32 → Int32 → Int32 → Prop),
  (∀ (v1 : Int32) (v2 : Int32), (((f 0 11) ≤ v2 → Q v1) ∧ (¬ (f 0 11) ≤ v2 → (vp_in v2 16 ∧ (((f 7 v2.toNatClampNeg) = (-1) → B28 v2 v1 0) ∧ (¬ (f 7 v2.toNatClampNeg) = (-1) → B28 v2 v1 1))))) → B4 v1 v2) →
  (∀ (v2 : Int32) (s0 : Int32) (s1 : Int32), (∀ y3 : Int32, y3 = (s0 + s1) → (∀ y4 : Int32, y4 = v2 + 1 → B4 y3 y4)) → B28 v2 s0 s1) →
  B4 0 0
def P_X7_renews (f : sx_F) (x1 : Int32) (Q : sx_F → Prop) : Prop :=
  ∀ (B2 : sx_F → Int32 → Prop),
  ∀ (B45 : sx_F → Int32 → Int32 → Int32 → Prop),
  (∀ (f : sx_F) (v2 : Int32), ((12 ≤ v2 → Q f) ∧ (¬ 12 ≤ v2 → (((f 0 5) ≤ v2 → B45 f v2 ((12 * x1) + v2) (-1)) ∧ (¬ (f 0 5) ≤ v2 → (vp_in x1 16 ∧ (P_X7_cell f (f 6 x1.toNatClampNeg) v2 (fun r3 => (vp_in r3 60 ∧ B45 f v2 ((12 * x1) + v2) (f 5 r3.toNatClampNeg))))))))) → B2 f v2) →
  (∀ (f : sx_F) (v2 : Int32) (s1 : Int32) (s2 : Int32), (vp_in s1 192 ∧ ∀ g5 : sx_F, g5 = sx_u f 8 s1.toNatClampNeg s2 → (∀ y6 : Int32, y6 = v2 + 1 → B2 g5 y6)) → B45 f v2 s1 s2) →
  B2 f 0
def P_X7_lend (f : sx_F) (x1 : Int32) (x2 : Int32) (Q : Int32 → sx_F → Prop) : Prop :=
  ∀ (B21 : sx_F → Prop),
  ∀ (B22 : sx_F → Int32 → Prop),
  ∀ (B41 : sx_F → Int32 → Prop),
  ∀ (B42 : sx_F → Int32 → Int32 → Prop),
  ∀ (B47 : sx_F → Int32 → Int32 → Int32 → Prop),
  ∀ (B92 : sx_F → Int32 → Int32 → Prop),
  ∀ (B96 : sx_F → Int32 → Int32 → Prop),
  ∀ (B97 : sx_F → Int32 → Int32 → Int32 → Prop),
  ∀ (B105 : sx_F → Int32 → Int32 → Prop),
  (∀ (f : sx_F), B22 f 0 → B21 f) →
  (∀ (f : sx_F) (s0 : Int32), ((s0 = 0 → B41 f s0) ∧ (¬ s0 = 0 → (vp_in x1 16 ∧ (((f 7 x1.toNatClampNeg) = (-1) → B42 f s0 1) ∧ (¬ (f 7 x1.toNatClampNeg) = (-1) → B41 f s0))))) → B22 f s0) →
  (∀ (f : sx_F) (v3 : Int32), B42 f v3 0 → B41 f v3) →
  (∀ (f : sx_F) (v3 : Int32) (s0 : Int32), B47 f v3 s0 0 → B42 f v3 s0) →
  (∀ (f : sx_F) (v3 : Int32) (v4 : Int32) (v5 : Int32), (((f 0 11) ≤ v5 → B105 f v3 v4) ∧ (¬ (f 0 11) ≤ v5 → ((v3 = 0 → B105 f v3 v4) ∧ (¬ v3 = 0 → ((v4 = 0 → B96 f v3 v5) ∧ (¬ v4 = 0 → (vp_in v5 16 ∧ (((f 7 v5.toNatClampNeg) = x2 → (vp_in v5 16 ∧ (vp_in x1 16 ∧ (((f 6 v5.toNatClampNeg) = (f 6 x1.toNatClampNeg) → B96 f v3 v5) ∧ (¬ (f 6 v5.toNatClampNeg) = (f 6 x1.toNatClampNeg) → B92 f v3 v5))))) ∧ (¬ (f 7 v5.toNatClampNeg) = x2 → B92 f v3 v5))))))))) → B47 f v3 v4 v5) →
  (∀ (f : sx_F) (v3 : Int32) (v5 : Int32), B97 f v3 v5 1 → B92 f v3 v5) →
  (∀ (f : sx_F) (v3 : Int32) (v5 : Int32), B97 f v3 v5 0 → B96 f v3 v5) →
  (∀ (f : sx_F) (v3 : Int32) (v5 : Int32) (s0 : Int32), (∀ y8 : Int32, y8 = v5 + 1 → B47 f v3 s0 y8) → B97 f v3 v5 s0) →
  (∀ (f : sx_F) (v3 : Int32) (v4 : Int32), (P_X7_goes f v3 v4 1 (fun r10 g9 => ((r10 = 0 → Q 0 g9) ∧ (¬ r10 = 0 → (vp_in x1 16 ∧ ∀ g12 : sx_F, g12 = sx_u g9 7 x1.toNatClampNeg x2 → (P_X7_renews g12 x1 (fun g13 => (P_X7_away g13 (fun r14 => Q r14 g13))))))))) → B105 f v3 v4) →
  (P_X7_isCopy f x1 (fun r16 => ((r16 = 0 → B21 f) ∧ (¬ r16 = 0 → (P_X7_in f x2 0 5 (fun r19 => ((r19 = 0 → B21 f) ∧ (¬ r19 = 0 → B22 f 1))))))))
def P_X7_owes (f : sx_F) (x1 : Int32) (x2 : Int32) (Q : Int32 → Prop) : Prop :=
  (vp_in x1 16 ∧ (((f 7 x1.toNatClampNeg) = (-1) → Q 0) ∧ (¬ (f 7 x1.toNatClampNeg) = (-1) → (vp_in ((12 * x1) + x2) 192 ∧ (vp_in x1 16 ∧ (P_X7_cell f (f 6 x1.toNatClampNeg) x2 (fun r2 => (vp_in r2 60 ∧ (((f 8 ((12 * x1) + x2).toNatClampNeg) = (f 5 r2.toNatClampNeg) → Q 0) ∧ (¬ (f 8 ((12 * x1) + x2).toNatClampNeg) = (f 5 r2.toNatClampNeg) → Q 1))))))))))
def P_X7_owedBy (f : sx_F) (x1 : Int32) (Q : Int32 → Prop) : Prop :=
  ∀ (B4 : Int32 → Int32 → Prop),
  ∀ (B27 : Int32 → Int32 → Int32 → Prop),
  (∀ (v2 : Int32) (v3 : Int32), (((f 0 5) ≤ v3 → Q v2) ∧ (¬ (f 0 5) ≤ v3 → (P_X7_owes f x1 v3 (fun r2 => ((r2 = 0 → B27 v3 v2 0) ∧ (¬ r2 = 0 → B27 v3 v2 1)))))) → B4 v2 v3) →
  (∀ (v3 : Int32) (s0 : Int32) (s1 : Int32), (∀ y5 : Int32, y5 = (s0 + s1) → (∀ y6 : Int32, y6 = v3 + 1 → B4 y5 y6)) → B27 v3 s0 s1) →
  B4 0 0
def P_X7_isAway (f : sx_F) (x1 : Int32) (Q : Int32 → Prop) : Prop :=
  (P_X7_isCopy f x1 (fun r1 => ((r1 = 0 → Q 0) ∧ (¬ r1 = 0 → (vp_in x1 16 ∧ (((f 7 x1.toNatClampNeg) = (-1) → Q 0) ∧ (¬ (f 7 x1.toNatClampNeg) = (-1) → Q 1)))))))
def P_X7_giveBack (f : sx_F) (x1 : Int32) (Q : Int32 → sx_F → Prop) : Prop :=
  (P_X7_isCopy f x1 (fun r1 => (P_X7_isAway f x1 (fun r3 => (P_X7_goes f r1 r3 1 (fun r6 g5 => ((r6 = 0 → Q 0 g5) ∧ (¬ r6 = 0 → (P_X7_owedBy g5 x1 (fun r8 => (vp_in x1 16 ∧ ∀ g10 : sx_F, g10 = sx_u g5 7 x1.toNatClampNeg (-1) → Q r8 g10)))))))))))
def P_X7_paste (f : sx_F) (x1 : Int32) (Q : Int32 → sx_F → Prop) : Prop :=
  (P_X7_isCopy f x1 (fun r1 => (P_X7_isAway f x1 (fun r3 => (P_X7_goes f r1 r3 1 (fun r6 g5 => ((r6 = 0 → Q 0 g5) ∧ (¬ r6 = 0 → (P_X7_owedBy g5 x1 (fun r8 => (P_X7_renews g5 x1 (fun g10 => Q r8 g10))))))))))))
def P_X7_mark (f : sx_F) (x1 : Int32) (x2 : Int32) (x3 : Int32) (Q : Int32 → sx_F → Prop) : Prop :=
  ∀ (B20 : sx_F → Prop),
  ∀ (B21 : sx_F → Int32 → Prop),
  ∀ (B57 : sx_F → Int32 → Prop),
  ∀ (B58 : sx_F → Int32 → Int32 → Prop),
  (∀ (f : sx_F), B21 f 0 → B20 f) →
  (∀ (f : sx_F) (s0 : Int32), ((s0 = 0 → B57 f s0) ∧ (¬ s0 = 0 → (vp_in x1 16 ∧ (((f 7 x1.toNatClampNeg) = (-1) → B57 f s0) ∧ (¬ (f 7 x1.toNatClampNeg) = (-1) → (vp_in ((12 * x1) + x2) 192 ∧ (((f 8 ((12 * x1) + x2).toNatClampNeg) = (-1) → B57 f s0) ∧ (¬ (f 8 ((12 * x1) + x2).toNatClampNeg) = (-1) → B58 f s0 1)))))))) → B21 f s0) →
  (∀ (f : sx_F) (v4 : Int32), B58 f v4 0 → B57 f v4) →
  (∀ (f : sx_F) (v4 : Int32) (s0 : Int32), (P_X7_in f x3 0 9 (fun r4 => (P_X7_goes f v4 r4 s0 (fun r7 g6 => ((r7 = 0 → Q 0 g6) ∧ (¬ r7 = 0 → (vp_in x1 16 ∧ (vp_in x1 16 ∧ (P_X7_cell g6 (g6 6 x1.toNatClampNeg) x2 (fun r9 => (∀ y11 : Int32, y11 = ((60 * (g6 7 x1.toNatClampNeg)) + r9) → (vp_in y11 360 ∧ (∀ y12 : Int32, y12 = (g6 9 y11.toNatClampNeg) → (vp_in y11 360 ∧ ∀ g13 : sx_F, g13 = sx_u g6 9 y11.toNatClampNeg x3 → (vp_in ((12 * x1) + x2) 192 ∧ (vp_in y11 360 ∧ ∀ g14 : sx_F, g14 = sx_u g13 10 y11.toNatClampNeg (g13 8 ((12 * x1) + x2).toNatClampNeg) → Q y12 g14)))))))))))))))) → B58 f v4 s0) →
  (P_X7_isCopy f x1 (fun r15 => ((r15 = 0 → B20 f) ∧ (¬ r15 = 0 → (P_X7_isBar f x2 (fun r18 => ((r18 = 0 → B20 f) ∧ (¬ r18 = 0 → B21 f 1))))))))
def P_X7_bowing (f : sx_F) (x1 : Int32) (x2 : Int32) (x3 : Int32) (Q : Int32 → Prop) : Prop :=
  (∀ y1 : Int32, y1 = ((8 * ((60 * x1) + x2)) + x3) → (vp_in y1 2880 ∧ (vp_in x2 60 ∧ (((f 12 y1.toNatClampNeg) = (f 5 x2.toNatClampNeg) → (vp_in y1 2880 ∧ Q (f 11 y1.toNatClampNeg))) ∧ (¬ (f 12 y1.toNatClampNeg) = (f 5 x2.toNatClampNeg) → Q 0)))))
def P_X7_bow (f : sx_F) (x1 : Int32) (x2 : Int32) (x3 : Int32) (x4 : Int32) (Q : Int32 → sx_F → Prop) : Prop :=
  ∀ (B31 : sx_F → Prop),
  ∀ (B32 : sx_F → Int32 → Prop),
  ∀ (B72 : sx_F → Int32 → Int32 → Prop),
  ∀ (B73 : sx_F → Int32 → Int32 → Int32 → Prop),
  (∀ (f : sx_F), B32 f 0 → B31 f) →
  (∀ (f : sx_F) (s0 : Int32), (P_X7_in f x4 0 2 (fun r1 => ((s0 = 0 → B72 f s0 r1) ∧ (¬ s0 = 0 → (vp_in x1 16 ∧ (((f 7 x1.toNatClampNeg) = (-1) → B72 f s0 r1) ∧ (¬ (f 7 x1.toNatClampNeg) = (-1) → (P_X7_owes f x1 x2 (fun r5 => ((r5 = 0 → B73 f s0 r1 1) ∧ (¬ r5 = 0 → B72 f s0 r1))))))))))) → B32 f s0) →
  (∀ (f : sx_F) (s1 : Int32) (s2 : Int32), B73 f s1 s2 0 → B72 f s1 s2) →
  (∀ (f : sx_F) (s1 : Int32) (s2 : Int32) (s3 : Int32), (P_X7_goes f s1 s2 s3 (fun r9 g8 => ((r9 = 0 → Q 0 g8) ∧ (¬ r9 = 0 → (vp_in x1 16 ∧ (P_X7_cell g8 (g8 6 x1.toNatClampNeg) x2 (fun r11 => (vp_in x1 16 ∧ (∀ y13 : Int32, y13 = ((8 * ((60 * (g8 7 x1.toNatClampNeg)) + r11)) + x3) → (vp_in x1 16 ∧ (P_X7_bowing g8 (g8 7 x1.toNatClampNeg) r11 x3 (fun r14 => (vp_in y13 2880 ∧ ∀ g16 : sx_F, g16 = sx_u g8 11 y13.toNatClampNeg x4 → (vp_in r11 60 ∧ (vp_in y13 2880 ∧ ∀ g17 : sx_F, g17 = sx_u g16 12 y13.toNatClampNeg (g16 5 r11.toNatClampNeg) → Q r14 g17))))))))))))))) → B73 f s1 s2 s3) →
  (P_X7_isCopy f x1 (fun r18 => ((r18 = 0 → B31 f) ∧ (¬ r18 = 0 → (vp_in x1 16 ∧ (P_X7_isNote f (f 6 x1.toNatClampNeg) x2 x3 (fun r21 => ((r21 = 0 → B31 f) ∧ (¬ r21 = 0 → B32 f 1)))))))))
def P_X7_play (f : sx_F)  (Q : Int32 → sx_F → Prop) : Prop :=
  ∀ (B12 : sx_F → Int32 → Prop),
  ∀ (B15 : sx_F → Int32 → Int32 → Prop),
  ∀ (B39 : sx_F → Int32 → Prop),
  ∀ (B40 : sx_F → Int32 → Int32 → Prop),
  (∀ (f : sx_F) (s0 : Int32), B15 f s0 0 → B12 f s0) →
  (∀ (f : sx_F) (v1 : Int32) (v2 : Int32), (((f 0 11) ≤ v2 → (P_X7_goes f v1 1 1 (fun r3 g2 => ((r3 = 0 → Q 0 g2) ∧ (¬ r3 = 0 → (∀ g5 : sx_F, g5 = sx_u g2 0 12 ((g2 0 12) + 1) → (P_X7_away g5 (fun r6 => Q r6 g5)))))))) ∧ (¬ (f 0 11) ≤ v2 → ((v1 = 0 → B39 f v2) ∧ (¬ v1 = 0 → (P_X7_owedBy f v2 (fun r9 => ((r9 = 0 → B40 f v2 1) ∧ (¬ r9 = 0 → B39 f v2)))))))) → B15 f v1 v2) →
  (∀ (f : sx_F) (v2 : Int32), B40 f v2 0 → B39 f v2) →
  (∀ (f : sx_F) (v2 : Int32) (s0 : Int32), (∀ y12 : Int32, y12 = v2 + 1 → B15 f s0 y12) → B40 f v2 s0) →
  (P_X7_away f (fun r13 => ((r13 ≤ 0 → B12 f 0) ∧ (¬ r13 ≤ 0 → B12 f 1))))
def P_X7_bars (f : sx_F)  (Q : Int32 → sx_F → Prop) : Prop :=
  (∀ g1 : sx_F, g1 = sx_u f 0 33 0 → Q (g1 0 5) g1)
def P_X7_notes (f : sx_F) (x1 : Int32) (x2 : Int32) (Q : Int32 → sx_F → Prop) : Prop :=
  ∀ (B20 : sx_F → Prop),
  ∀ (B21 : sx_F → Int32 → Prop),
  (∀ (f : sx_F), B21 f 0 → B20 f) →
  (∀ (f : sx_F) (s1 : Int32), (P_X7_goes f s1 1 1 (fun r2 g1 => ((r2 = 0 → Q 0 g1) ∧ (¬ r2 = 0 → (P_X7_cell g1 x1 x2 (fun r4 => (vp_in r4 60 ∧ Q (g1 4 r4.toNatClampNeg) g1))))))) → B21 f s1) →
  (P_X7_isInstrument f x1 (fun r6 => ((r6 = 0 → B20 f) ∧ (¬ r6 = 0 → (P_X7_isBar f x2 (fun r9 => ((r9 = 0 → B20 f) ∧ (¬ r9 = 0 → B21 f 1))))))))
def P_X7_noteAt (f : sx_F) (x1 : Int32) (x2 : Int32) (x3 : Int32) (Q : Int32 → sx_F → Prop) : Prop :=
  (P_X7_isNote f x1 x2 x3 (fun r1 => (P_X7_goes f r1 1 1 (fun r4 g3 => ((r4 = 0 → Q 0 g3) ∧ (¬ r4 = 0 → (P_X7_cell g3 x1 x2 (fun r6 => (∀ y8 : Int32, y8 = ((8 * r6) + x3) → (vp_in y8 480 ∧ (vp_in y8 480 ∧ Q ((100 * (g3 2 y8.toNatClampNeg)) + (g3 3 y8.toNatClampNeg)) g3)))))))))))
def P_X7_version (f : sx_F) (x1 : Int32) (x2 : Int32) (Q : Int32 → sx_F → Prop) : Prop :=
  ∀ (B20 : sx_F → Prop),
  ∀ (B21 : sx_F → Int32 → Prop),
  (∀ (f : sx_F), B21 f 0 → B20 f) →
  (∀ (f : sx_F) (s1 : Int32), (P_X7_goes f s1 1 1 (fun r2 g1 => ((r2 = 0 → Q 0 g1) ∧ (¬ r2 = 0 → (P_X7_cell g1 x1 x2 (fun r4 => (vp_in r4 60 ∧ Q (g1 5 r4.toNatClampNeg) g1))))))) → B21 f s1) →
  (P_X7_isInstrument f x1 (fun r6 => ((r6 = 0 → B20 f) ∧ (¬ r6 = 0 → (P_X7_isBar f x2 (fun r9 => ((r9 = 0 → B20 f) ∧ (¬ r9 = 0 → B21 f 1))))))))
def P_X7_time (f : sx_F) (x1 : Int32) (Q : Int32 → sx_F → Prop) : Prop :=
  ∀ (B21 : sx_F → Int32 → Int32 → Int32 → Prop),
  (∀ (f : sx_F) (v2 : Int32) (v3 : Int32) (v4 : Int32), ((v3 = 0 → Q v2 f) ∧ (¬ v3 = 0 → ((x1 ≤ v4 → Q v2 f) ∧ (¬ x1 ≤ v4 → (vp_in v4 12 ∧ (∀ y3 : Int32, y3 = (v2 + (f 1 v4.toNatClampNeg)) → (∀ y4 : Int32, y4 = v4 + 1 → B21 f y3 v3 y4))))))) → B21 f v2 v3 v4) →
  (P_X7_in f x1 0 (f 0 5) (fun r5 => (P_X7_goes f r5 1 1 (fun r8 g7 => B21 g7 0 r8 0))))
def P_X7_timeByBars (f : sx_F) (x1 : Int32) (Q : Int32 → sx_F → Prop) : Prop :=
  (P_X7_time f x1 (fun r2 g1 => Q r2 g1))
def P_X7_isSilent (f : sx_F) (x1 : Int32) (x2 : Int32) (Q : Int32 → Prop) : Prop :=
  ∀ (B12 : Int32 → Int32 → Int32 → Prop),
  ∀ (B48 : Int32 → Int32 → Prop),
  ∀ (B49 : Int32 → Int32 → Int32 → Prop),
  (∀ (v3 : Int32) (v4 : Int32) (v5 : Int32), (vp_in v4 60 ∧ (((f 4 v4.toNatClampNeg) ≤ v5 → ((v3 = 0 ∨ v3 = 1) ∧ Q v3)) ∧ (¬ (f 4 v4.toNatClampNeg) ≤ v5 → ((v3 = 0 → B48 v4 v5) ∧ (¬ v3 = 0 → (vp_in ((8 * v4) + v5) 480 ∧ (((f 3 ((8 * v4) + v5).toNatClampNeg) = 0 → B49 v4 v5 1) ∧ (¬ (f 3 ((8 * v4) + v5).toNatClampNeg) = 0 → B48 v4 v5)))))))) → B12 v3 v4 v5) →
  (∀ (v4 : Int32) (v5 : Int32), B49 v4 v5 0 → B48 v4 v5) →
  (∀ (v4 : Int32) (v5 : Int32) (s0 : Int32), (∀ y4 : Int32, y4 = v5 + 1 → B12 s0 v4 y4) → B49 v4 v5 s0) →
  (P_X7_cell f x1 x2 (fun r5 => B12 1 r5 0))
def P_X7_cueFor (f : sx_F) (x1 : Int32) (x2 : Int32) (Q : Int32 → Prop) : Prop :=
  ∀ (B5 : Int32 → Int32 → Prop),
  ∀ (B31 : Int32 → Int32 → Prop),
  ∀ (B32 : Int32 → Int32 → Int32 → Prop),
  ∀ (B68 : Int32 → Prop),
  ∀ (B73 : Int32 → Int32 → Prop),
  ∀ (B74 : Int32 → Int32 → Prop),
  (∀ (v3 : Int32) (v4 : Int32), ((5 ≤ v4 → Q v3) ∧ (¬ 5 ≤ v4 → ((v4 = x1 → B31 v3 v4) ∧ (¬ v4 = x1 → (P_X7_isSilent f v4 x2 (fun r3 => ((r3 = 0 → B32 v3 v4 1) ∧ (¬ r3 = 0 → B31 v3 v4)))))))) → B5 v3 v4) →
  (∀ (v3 : Int32) (v4 : Int32), B32 v3 v4 0 → B31 v3 v4) →
  (∀ (v3 : Int32) (v4 : Int32) (s0 : Int32), ((s0 = 0 → B73 v3 v4) ∧ (¬ s0 = 0 → ((v3 = (-1) → B68 v4) ∧ (¬ v3 = (-1) → (P_X7_cell f v4 x2 (fun r8 => (vp_in r8 60 ∧ (P_X7_cell f v3 x2 (fun r10 => (vp_in r10 60 ∧ (((f 4 r8.toNatClampNeg) ≤ (f 4 r10.toNatClampNeg) → B73 v3 v4) ∧ (¬ (f 4 r8.toNatClampNeg) ≤ (f 4 r10.toNatClampNeg) → B68 v4)))))))))))) → B32 v3 v4 s0) →
  (∀ (v4 : Int32), B74 v4 v4 → B68 v4) →
  (∀ (v3 : Int32) (v4 : Int32), B74 v4 v3 → B73 v3 v4) →
  (∀ (v4 : Int32) (s0 : Int32), (∀ y13 : Int32, y13 = v4 + 1 → B5 s0 y13) → B74 v4 s0) →
  B5 (-1) 0
def P_X7_adds (f : sx_F) (x1 : Int32) (x2 : Int32) (x3 : Int32) (Q : sx_F → Prop) : Prop :=
  (vp_in (f 0 20) 12 ∧ ∀ g1 : sx_F, g1 = sx_u f 13 (f 0 20).toNatClampNeg x1 → (vp_in (g1 0 20) 12 ∧ ∀ g2 : sx_F, g2 = sx_u g1 14 (g1 0 20).toNatClampNeg x2 → (vp_in (g2 0 20) 12 ∧ ∀ g3 : sx_F, g3 = sx_u g2 15 (g2 0 20).toNatClampNeg x3 → (∀ g4 : sx_F, g4 = sx_u g3 0 20 ((g3 0 20) + 1) → Q g4))))
def P_X7_laysItems (f : sx_F) (x1 : Int32) (Q : sx_F → Prop) : Prop :=
  ∀ (B7 : sx_F → Int32 → Prop),
  ∀ (B17 : sx_F → Int32 → Int32 → Prop),
  ∀ (B45 : sx_F → Int32 → Int32 → Prop),
  ∀ (B89 : sx_F → Int32 → Int32 → Prop),
  ∀ (B90 : sx_F → Int32 → Int32 → Int32 → Prop),
  ∀ (B109 : sx_F → Int32 → Int32 → Int32 → Int32 → Prop),
  ∀ (B131 : sx_F → Int32 → Prop),
  (∀ (f : sx_F) (v2 : Int32), (((f 0 5) ≤ v2 → Q f) ∧ (¬ (f 0 5) ≤ v2 → B17 f v2 v2)) → B7 f v2) →
  (∀ (f : sx_F) (v2 : Int32) (v3 : Int32), ((x1 = 5 → B45 f v2 v3) ∧ (¬ x1 = 5 → (((f 0 5) ≤ v3 → B45 f v2 v3) ∧ (¬ (f 0 5) ≤ v3 → (P_X7_isSilent f x1 v3 (fun r4 => ((r4 = 0 → B45 f v2 v3) ∧ (¬ r4 = 0 → (∀ y7 : Int32, y7 = v3 + 1 → B17 f v2 y7))))))))) → B17 f v2 v3) →
  (∀ (f : sx_F) (v2 : Int32) (v3 : Int32), ((v3 = v2 → (P_X7_adds f v2 v2 x1 (fun g13 => (∀ y14 : Int32, y14 = v3 + 1 → B131 g13 y14)))) ∧ (¬ v3 = v2 → (((v3 - v2) < 3 → B89 f v2 v3) ∧ (¬ (v3 - v2) < 3 → (((f 0 5) ≤ v3 → B89 f v2 v3) ∧ (¬ (f 0 5) ≤ v3 → (P_X7_cueFor f x1 (v3 - 1) (fun r11 => B90 f v2 v3 r11)))))))) → B45 f v2 v3) →
  (∀ (f : sx_F) (v2 : Int32) (v3 : Int32), B90 f v2 v3 (-1) → B89 f v2 v3) →
  (∀ (f : sx_F) (v2 : Int32) (v3 : Int32) (s0 : Int32), ((s0 = (-1) → B109 f v3 s0 v2 (v3 - 1)) ∧ (¬ s0 = (-1) → B109 f v3 s0 v2 (v3 - 2))) → B90 f v2 v3 s0) →
  (∀ (f : sx_F) (v3 : Int32) (v4 : Int32) (s1 : Int32) (s2 : Int32), (P_X7_adds f s1 s2 (-1) (fun g16 => ((v4 = (-1) → B131 g16 v3) ∧ (¬ v4 = (-1) → (P_X7_adds g16 (v3 - 1) (v3 - 1) v4 (fun g18 => B131 g18 v3)))))) → B109 f v3 v4 s1 s2) →
  (∀ (f : sx_F) (v3 : Int32), B7 f v3 → B131 f v3) →
  (∀ g19 : sx_F, g19 = sx_u f 0 20 0 → B7 g19 0)
def P_X7_begins (f : sx_F) (x1 : Int32) (x2 : Int32) (x3 : Int32) (Q : Int32 → Prop) : Prop :=
  ∀ (B13 : Int32 → Int32 → Int32 → Prop),
  (∀ (v4 : Int32) (v5 : Int32) (v6 : Int32), (vp_in v4 60 ∧ (((f 4 v4.toNatClampNeg) ≤ v6 → ((v5 = x3 → (vp_in x2 12 ∧ (((f 1 x2.toNatClampNeg) ≤ v5 → Q 0) ∧ (¬ (f 1 x2.toNatClampNeg) ≤ v5 → Q 1)))) ∧ (¬ v5 = x3 → Q 0))) ∧ (¬ (f 4 v4.toNatClampNeg) ≤ v6 → ((v5 = x3 → (vp_in ((8 * v4) + v6) 480 ∧ (((f 3 ((8 * v4) + v6).toNatClampNeg) ≤ 0 → Q 1) ∧ (¬ (f 3 ((8 * v4) + v6).toNatClampNeg) ≤ 0 → Q 2)))) ∧ (¬ v5 = x3 → (vp_in ((8 * v4) + v6) 480 ∧ (∀ y5 : Int32, y5 = (v5 + (f 2 ((8 * v4) + v6).toNatClampNeg)) → (∀ y6 : Int32, y6 = v6 + 1 → B13 v4 y5 y6)))))))) → B13 v4 v5 v6) →
  (P_X7_cell f x1 x2 (fun r8 => B13 r8 0 0))
def P_X7_halvings (f : sx_F) (x0 : Int32) (Q : Int32 → Prop) : Prop :=
  ∀ (B4 : Int32 → Int32 → Prop),
  (∀ (v1 : Int32) (v2 : Int32), ((v2 ≤ 1 → Q v1) ∧ (¬ v2 ≤ 1 → (∀ y2 : Int32, y2 = (v2 / 2) → (∀ y3 : Int32, y3 = v1 + 1 → B4 y3 y2)))) → B4 v1 v2) →
  B4 0 x0
def P_X7_laysSprings (f : sx_F)  (Q : sx_F → Prop) : Prop :=
  ∀ (B9 : sx_F → Int32 → Prop),
  ∀ (B51 : sx_F → Int32 → Int32 → Int32 → Int32 → Prop),
  ∀ (B73 : sx_F → Int32 → Int32 → Int32 → Int32 → Int32 → Prop),
  ∀ (B78 : sx_F → Int32 → Int32 → Int32 → Int32 → Int32 → Int32 → Prop),
  ∀ (B109 : sx_F → Int32 → Int32 → Int32 → Int32 → Int32 → Int32 → Int32 → Int32 → Int32 → Prop),
  ∀ (B139 : sx_F → Int32 → Int32 → Int32 → Int32 → Int32 → Int32 → Int32 → Int32 → Int32 → Int32 → Int32 → Prop),
  ∀ (B155 : sx_F → Int32 → Int32 → Int32 → Int32 → Int32 → Int32 → Int32 → Int32 → Int32 → Int32 → Prop),
  ∀ (B174 : sx_F → Int32 → Int32 → Int32 → Int32 → Int32 → Int32 → Int32 → Prop),
  ∀ (B195 : sx_F → Int32 → Int32 → Int32 → Int32 → Int32 → Int32 → Prop),
  ∀ (B201 : sx_F → Int32 → Int32 → Int32 → Prop),
  ∀ (B209 : sx_F → Int32 → Int32 → Int32 → Int32 → Prop),
  ∀ (B241 : sx_F → Int32 → Int32 → Int32 → Int32 → Int32 → Prop),
  ∀ (B293 : sx_F → Int32 → Int32 → Int32 → Int32 → Int32 → Int32 → Prop),
  ∀ (B336 : sx_F → Int32 → Int32 → Prop),
  ∀ (B369 : sx_F → Int32 → Int32 → Int32 → Prop),
  (∀ (f : sx_F) (v1 : Int32), (((f 0 20) ≤ v1 → Q f) ∧ (¬ (f 0 20) ≤ v1 → (vp_in v1 13 ∧ (∀ y2 : Int32, y2 = (f 16 v1.toNatClampNeg) → (vp_in v1 12 ∧ (∀ y3 : Int32, y3 = (f 13 v1.toNatClampNeg) → (vp_in v1 12 ∧ (((f 15 v1.toNatClampNeg) = 5 → B51 f v1 y2 y3 0) ∧ (¬ (f 15 v1.toNatClampNeg) = 5 → (vp_in v1 12 ∧ B51 f v1 y2 y3 (f 15 v1.toNatClampNeg))))))))))) → B9 f v1) →
  (∀ (f : sx_F) (v1 : Int32) (v2 : Int32) (v3 : Int32) (s0 : Int32), (vp_in v1 12 ∧ (((f 15 v1.toNatClampNeg) = 5 → B73 f v1 v2 v3 s0 4) ∧ (¬ (f 15 v1.toNatClampNeg) = 5 → (vp_in v1 12 ∧ B73 f v1 v2 v3 s0 (f 15 v1.toNatClampNeg))))) → B51 f v1 v2 v3 s0) →
  (∀ (f : sx_F) (v1 : Int32) (v2 : Int32) (v3 : Int32) (v4 : Int32) (s0 : Int32), B78 f v1 v2 v3 v4 s0 0 → B73 f v1 v2 v3 v4 s0) →
  (∀ (f : sx_F) (v1 : Int32) (v2 : Int32) (v3 : Int32) (v4 : Int32) (v5 : Int32) (v6 : Int32), (vp_in v3 12 ∧ (((f 1 v3.toNatClampNeg) ≤ v6 → B201 f v1 v2 v3) ∧ (¬ (f 1 v3.toNatClampNeg) ≤ v6 → (vp_in v1 12 ∧ (((f 15 v1.toNatClampNeg) = (-1) → B201 f v1 v2 v3) ∧ (¬ (f 15 v1.toNatClampNeg) = (-1) → B109 f v1 v2 v3 v4 v5 v6 0 0 v4)))))) → B78 f v1 v2 v3 v4 v5 v6) →
  (∀ (f : sx_F) (v1 : Int32) (v2 : Int32) (v3 : Int32) (v4 : Int32) (v5 : Int32) (v6 : Int32) (v7 : Int32) (v8 : Int32) (v9 : Int32), ((v5 < v9 → ((v6 = 0 → B174 f v1 v2 v3 v4 v5 v6 v8) ∧ (¬ v6 = 0 → ((v7 ≤ 0 → B195 f v1 v2 v3 v4 v5 v6) ∧ (¬ v7 ≤ 0 → B174 f v1 v2 v3 v4 v5 v6 v8))))) ∧ (¬ v5 < v9 → (P_X7_begins f v9 v3 v6 (fun r11 => ((r11 ≤ 0 → B139 f v1 v2 v3 v4 v5 v6 v8 v9 r11 v7 0) ∧ (¬ r11 ≤ 0 → B139 f v1 v2 v3 v4 v5 v6 v8 v9 r11 v7 1)))))) → B109 f v1 v2 v3 v4 v5 v6 v7 v8 v9) →
  (∀ (f : sx_F) (v1 : Int32) (v2 : Int32) (v3 : Int32) (v4 : Int32) (v5 : Int32) (v6 : Int32) (v8 : Int32) (v9 : Int32) (v10 : Int32) (s0 : Int32) (s1 : Int32), (∀ y14 : Int32, y14 = (s0 + s1) → ((v10 = 2 → B155 f v1 v2 v3 v4 v5 v6 y14 v9 v8 1) ∧ (¬ v10 = 2 → B155 f v1 v2 v3 v4 v5 v6 y14 v9 v8 0))) → B139 f v1 v2 v3 v4 v5 v6 v8 v9 v10 s0 s1) →
  (∀ (f : sx_F) (v1 : Int32) (v2 : Int32) (v3 : Int32) (v4 : Int32) (v5 : Int32) (v6 : Int32) (v7 : Int32) (v9 : Int32) (s0 : Int32) (s1 : Int32), (∀ y16 : Int32, y16 = (s0 + s1) → (∀ y17 : Int32, y17 = v9 + 1 → B109 f v1 v2 v3 v4 v5 v6 v7 y16 y17)) → B155 f v1 v2 v3 v4 v5 v6 v7 v9 s0 s1) →
  (∀ (f : sx_F) (v1 : Int32) (v2 : Int32) (v3 : Int32) (v4 : Int32) (v5 : Int32) (v6 : Int32) (v8 : Int32), (vp_in v2 400 ∧ ∀ g18 : sx_F, g18 = sx_u f 17 v2.toNatClampNeg v6 → (vp_in v2 400 ∧ ∀ g19 : sx_F, g19 = sx_u g18 19 v2.toNatClampNeg (4 + v8) → (∀ y20 : Int32, y20 = v2 + 1 → B195 g19 v1 y20 v3 v4 v5 v6))) → B174 f v1 v2 v3 v4 v5 v6 v8) →
  (∀ (f : sx_F) (v1 : Int32) (v2 : Int32) (v3 : Int32) (v4 : Int32) (v5 : Int32) (v6 : Int32), (∀ y21 : Int32, y21 = v6 + 1 → B78 f v1 v2 v3 v4 v5 y21) → B195 f v1 v2 v3 v4 v5 v6) →
  (∀ (f : sx_F) (v1 : Int32) (v2 : Int32) (v3 : Int32), (vp_in v1 13 ∧ (∀ y22 : Int32, y22 = (f 16 v1.toNatClampNeg) → B209 f v1 v2 v3 y22)) → B201 f v1 v2 v3) →
  (∀ (f : sx_F) (v1 : Int32) (v2 : Int32) (v3 : Int32) (v6 : Int32), ((v2 ≤ v6 → (vp_in v1 12 ∧ (((f 15 v1.toNatClampNeg) = (-1) → (vp_in v2 400 ∧ ∀ g25 : sx_F, g25 = sx_u f 17 v2.toNatClampNeg 0 → (vp_in v2 400 ∧ ∀ g26 : sx_F, g26 = sx_u g25 18 v2.toNatClampNeg 24 → (vp_in v2 400 ∧ ∀ g27 : sx_F, g27 = sx_u g26 19 v2.toNatClampNeg 16 → (∀ y28 : Int32, y28 = v2 + 1 → B336 g27 v1 y28))))) ∧ (¬ (f 15 v1.toNatClampNeg) = (-1) → B336 f v1 v2)))) ∧ (¬ v2 ≤ v6 → ((v2 ≤ (v6 + 1) → (vp_in v3 12 ∧ B241 f v1 v2 v3 v6 (f 1 v3.toNatClampNeg))) ∧ (¬ v2 ≤ (v6 + 1) → (vp_in (v6 + 1) 400 ∧ B241 f v1 v2 v3 v6 (f 17 (v6 + 1).toNatClampNeg)))))) → B209 f v1 v2 v3 v6) →
  (∀ (f : sx_F) (v1 : Int32) (v2 : Int32) (v3 : Int32) (v6 : Int32) (s0 : Int32), (vp_in v6 400 ∧ (∀ y30 : Int32, y30 = (s0 - (f 17 v6.toNatClampNeg)) → (P_X7_halvings f y30 (fun r31 => (∀ y33 : Int32, y33 = (6 + (3 * r31)) → (vp_in v6 400 ∧ (((f 19 v6.toNatClampNeg) ≤ y33 → B293 f v1 v2 v3 v6 v6 y33) ∧ (¬ (f 19 v6.toNatClampNeg) ≤ y33 → (vp_in v6 400 ∧ B293 f v1 v2 v3 v6 v6 (f 19 v6.toNatClampNeg)))))))))) → B241 f v1 v2 v3 v6 s0) →
  (∀ (f : sx_F) (v1 : Int32) (v2 : Int32) (v3 : Int32) (v6 : Int32) (s1 : Int32) (s2 : Int32), (vp_in s1 400 ∧ ∀ g35 : sx_F, g35 = sx_u f 18 s1.toNatClampNeg s2 → (∀ y36 : Int32, y36 = v6 + 1 → B209 g35 v1 v2 v3 y36)) → B293 f v1 v2 v3 v6 s1 s2) →
  (∀ (f : sx_F) (v1 : Int32) (v2 : Int32), (vp_in (v1 + 1) 13 ∧ ∀ g37 : sx_F, g37 = sx_u f 16 (v1 + 1).toNatClampNeg v2 → (vp_in v1 12 ∧ ∀ g38 : sx_F, g38 = sx_u g37 20 v1.toNatClampNeg 8 → (vp_in v1 12 ∧ ∀ g39 : sx_F, g39 = sx_u g38 21 v1.toNatClampNeg 8 → (vp_in v1 13 ∧ (∀ y40 : Int32, y40 = (g39 16 v1.toNatClampNeg) → B369 g39 v1 v2 y40))))) → B336 f v1 v2) →
  (∀ (f : sx_F) (v1 : Int32) (v2 : Int32) (v6 : Int32), ((v2 ≤ v6 → (∀ y42 : Int32, y42 = v1 + 1 → B9 f y42)) ∧ (¬ v2 ≤ v6 → (vp_in v1 12 ∧ (vp_in v6 400 ∧ (vp_in v1 12 ∧ ∀ g43 : sx_F, g43 = sx_u f 20 v1.toNatClampNeg ((f 20 v1.toNatClampNeg) + (f 18 v6.toNatClampNeg)) → (vp_in v1 12 ∧ (vp_in v6 400 ∧ (vp_in v1 12 ∧ ∀ g44 : sx_F, g44 = sx_u g43 21 v1.toNatClampNeg ((g43 21 v1.toNatClampNeg) + (g43 19 v6.toNatClampNeg)) → (∀ y45 : Int32, y45 = v6 + 1 → B369 g44 v1 v2 y45))))))))) → B369 f v1 v2 v6) →
  (vp_in 0 13 ∧ ∀ g46 : sx_F, g46 = sx_u f 16 (0 : Int32).toNatClampNeg 0 → B9 g46 0)
def P_X7_silentTo (f : sx_F) (x1 : Int32) (x2 : Int32) (Q : Int32 → Prop) : Prop :=
  ∀ (B5 : Int32 → Int32 → Prop),
  ∀ (B24 : Int32 → Int32 → Int32 → Int32 → Int32 → Prop),
  ∀ (B67 : Int32 → Int32 → Int32 → Int32 → Int32 → Prop),
  (∀ (v3 : Int32) (v4 : Int32), ((v4 < 0 → Q v3) ∧ (¬ v4 < 0 → (P_X7_cell f x1 v4 (fun r2 => B24 v3 v4 r2 0 0)))) → B5 v3 v4) →
  (∀ (v3 : Int32) (v4 : Int32) (v5 : Int32) (v6 : Int32) (v7 : Int32), (vp_in v5 60 ∧ (((f 4 v5.toNatClampNeg) ≤ v7 → (vp_in v4 12 ∧ (∀ y5 : Int32, y5 = (v3 + ((f 1 v4.toNatClampNeg) - v6)) → ((v6 ≤ 0 → (∀ y7 : Int32, y7 = v4 + (-1) → B5 y5 y7)) ∧ (¬ v6 ≤ 0 → Q y5))))) ∧ (¬ (f 4 v5.toNatClampNeg) ≤ v7 → (vp_in ((8 * v5) + v7) 480 ∧ (((f 3 ((8 * v5) + v7).toNatClampNeg) ≤ 0 → B67 v3 v4 v5 v7 v6) ∧ (¬ (f 3 ((8 * v5) + v7).toNatClampNeg) ≤ 0 → (P_X7_filled f v5 (v7 + 1) (fun r9 => B67 v3 v4 v5 v7 r9)))))))) → B24 v3 v4 v5 v6 v7) →
  (∀ (v3 : Int32) (v4 : Int32) (v5 : Int32) (v7 : Int32) (s0 : Int32), (∀ y11 : Int32, y11 = v7 + 1 → B24 v3 v4 v5 s0 y11) → B67 v3 v4 v5 v7 s0) →
  B5 0 x2
def P_X7_silentFrom (f : sx_F) (x1 : Int32) (x2 : Int32) (Q : Int32 → Prop) : Prop :=
  ∀ (B5 : Int32 → Int32 → Prop),
  ∀ (B25 : Int32 → Int32 → Int32 → Int32 → Prop),
  (∀ (v3 : Int32) (v4 : Int32), (((f 0 5) ≤ v4 → Q v3) ∧ (¬ (f 0 5) ≤ v4 → (P_X7_cell f x1 v4 (fun r2 => B25 v3 v4 r2 0)))) → B5 v3 v4) →
  (∀ (v3 : Int32) (v4 : Int32) (v5 : Int32) (v6 : Int32), (vp_in v5 60 ∧ (((f 4 v5.toNatClampNeg) ≤ v6 → (vp_in v4 12 ∧ (∀ y5 : Int32, y5 = (v3 + (f 1 v4.toNatClampNeg)) → (∀ y6 : Int32, y6 = v4 + 1 → B5 y5 y6)))) ∧ (¬ (f 4 v5.toNatClampNeg) ≤ v6 → (vp_in ((8 * v5) + v6) 480 ∧ (((f 3 ((8 * v5) + v6).toNatClampNeg) ≤ 0 → (∀ y8 : Int32, y8 = v6 + 1 → B25 v3 v4 v5 y8)) ∧ (¬ (f 3 ((8 * v5) + v6).toNatClampNeg) ≤ 0 → (P_X7_filled f v5 v6 (fun r9 => Q (v3 + r9))))))))) → B25 v3 v4 v5 v6) →
  B5 0 x2
def P_X7_turnCost (f : sx_F) (x1 : Int32) (x2 : Int32) (Q : Int32 → Prop) : Prop :=
  ∀ (B27 : Int32 → Prop),
  (∀ (s0 : Int32), ((s0 ≤ 0 → Q 0) ∧ (¬ s0 ≤ 0 → Q (100 * s0))) → B27 s0) →
  ((x1 = 5 → B27 0) ∧ (¬ x1 = 5 → (P_X7_silentTo f x1 x2 (fun r3 => (P_X7_silentFrom f x1 (x2 + 1) (fun r5 => B27 ((16 - r3) - r5)))))))
def P_X7_badness (f : sx_F) (x1 : Int32) (x2 : Int32) (Q : Int32 → Prop) : Prop :=
  ∀ (B18 : Int32 → Int32 → Prop),
  ∀ (B32 : Int32 → Prop),
  (∀ (v3 : Int32) (s0 : Int32), ((x2 = 0 → B32 s0) ∧ (¬ x2 = 0 → ((v3 ≤ 0 → B32 s0) ∧ (¬ v3 ≤ 0 → Q 0)))) → B18 v3 s0) →
  (∀ (v4 : Int32), Q (v4 * v4) → B32 v4) →
  (∀ y3 : Int32, y3 = ((f 0 6) - x1) → ((0 ≤ y3 → B18 y3 y3) ∧ (¬ 0 ≤ y3 → B18 y3 (2 * y3))))
def P_X7_breaks (f : sx_F) (x1 : Int32) (Q : sx_F → Prop) : Prop :=
  ∀ (B2 : sx_F → Int32 → Prop),
  ∀ (B53 : sx_F → Int32 → Prop),
  ∀ (B59 : sx_F → Int32 → Int32 → Prop),
  ∀ (B92 : sx_F → Int32 → Int32 → Int32 → Int32 → Int32 → Int32 → Prop),
  ∀ (B151 : sx_F → Int32 → Int32 → Int32 → Int32 → Int32 → Int32 → Int32 → Prop),
  ∀ (B225 : sx_F → Int32 → Int32 → Int32 → Int32 → Int32 → Int32 → Int32 → Int32 → Prop),
  ∀ (B226 : sx_F → Int32 → Int32 → Int32 → Int32 → Int32 → Int32 → Int32 → Int32 → Int32 → Prop),
  ∀ (B282 : sx_F → Int32 → Int32 → Int32 → Int32 → Int32 → Int32 → Int32 → Int32 → Prop),
  ∀ (B286 : sx_F → Int32 → Int32 → Int32 → Int32 → Int32 → Int32 → Int32 → Int32 → Prop),
  ∀ (B287 : sx_F → Int32 → Int32 → Int32 → Int32 → Int32 → Int32 → Int32 → Int32 → Int32 → Prop),
  ∀ (B304 : sx_F → Int32 → Int32 → Int32 → Int32 → Int32 → Int32 → Int32 → Int32 → Int32 → Prop),
  ∀ (B343 : sx_F → Int32 → Int32 → Int32 → Int32 → Int32 → Int32 → Prop),
  ∀ (B373 : sx_F → Int32 → Prop),
  ∀ (B407 : sx_F → Int32 → Int32 → Int32 → Int32 → Prop),
  ∀ (B487 : sx_F → Int32 → Int32 → Prop),
  ∀ (B488 : sx_F → Int32 → Int32 → Int32 → Prop),
  (∀ (f : sx_F) (v2 : Int32), (((f 0 7) ≤ v2 → (∀ y2 : Int32, y2 = ((f 0 20) - 1) → B53 f y2)) ∧ (¬ (f 0 7) ≤ v2 → (vp_in ((6 * (f 0 20)) + v2) 78 ∧ ∀ g3 : sx_F, g3 = sx_u f 22 ((6 * (f 0 20)) + v2).toNatClampNeg 0 → (vp_in ((6 * (g3 0 20)) + v2) 78 ∧ ∀ g4 : sx_F, g4 = sx_u g3 23 ((6 * (g3 0 20)) + v2).toNatClampNeg 0 → (∀ y5 : Int32, y5 = v2 + 1 → B2 g4 y5))))) → B2 f v2) →
  (∀ (f : sx_F) (v2 : Int32), ((v2 < 0 → (∀ g7 : sx_F, g7 = sx_u f 0 31 0 → (∀ g8 : sx_F, g8 = sx_u g7 0 32 0 → B373 g8 0))) ∧ (¬ v2 < 0 → B59 f v2 0)) → B53 f v2) →
  (∀ (f : sx_F) (v2 : Int32) (v3 : Int32), (((f 0 7) ≤ v3 → (∀ y10 : Int32, y10 = v2 + (-1) → B53 f y10)) ∧ (¬ (f 0 7) ≤ v3 → (∀ y11 : Int32, y11 = ((6 * v2) + v3) → (vp_in y11 78 ∧ ∀ g12 : sx_F, g12 = sx_u f 24 y11.toNatClampNeg 0 → B92 g12 v2 v3 y11 0 0 1)))) → B59 f v2 v3) →
  (∀ (f : sx_F) (v2 : Int32) (v3 : Int32) (v4 : Int32) (v5 : Int32) (v6 : Int32) (v7 : Int32), (((f 0 20) < (v2 + v7) → (∀ y14 : Int32, y14 = v3 + 1 → B59 f v2 y14)) ∧ (¬ (f 0 20) < (v2 + v7) → (vp_in ((v2 + v7) - 1) 12 ∧ (∀ y15 : Int32, y15 = (v5 + (f 20 ((v2 + v7) - 1).toNatClampNeg)) → (vp_in ((v2 + v7) - 1) 12 ∧ (∀ y16 : Int32, y16 = (v6 + (f 21 ((v2 + v7) - 1).toNatClampNeg)) → (((v2 + v7) = (f 0 20) → B151 f v2 v3 v4 y15 y16 v7 1) ∧ (¬ (v2 + v7) = (f 0 20) → B151 f v2 v3 v4 y15 y16 v7 0)))))))) → B92 f v2 v3 v4 v5 v6 v7) →
  (∀ (f : sx_F) (v2 : Int32) (v3 : Int32) (v4 : Int32) (v5 : Int32) (v6 : Int32) (v7 : Int32) (s0 : Int32), (¬ (f 0 7) = 0 ∧ (∀ y18 : Int32, y18 = ((6 * (v2 + v7)) + ((v3 + 1) - (v3 + 1) / (f 0 7) * (f 0 7))) → (P_X7_badness f v5 s0 (fun r19 => (vp_in y18 78 ∧ (∀ y21 : Int32, y21 = (r19 + (f 22 y18.toNatClampNeg)) → ((v3 = ((f 0 7) - 1) → ((s0 = 0 → (vp_in ((v2 + v7) - 1) 12 ∧ (P_X7_turnCost f x1 (f 14 ((v2 + v7) - 1).toNatClampNeg) (fun r24 => B226 f v2 v3 v4 v5 v6 v7 y18 y21 r24)))) ∧ (¬ s0 = 0 → B225 f v2 v3 v4 v5 v6 v7 y18 y21))) ∧ (¬ v3 = ((f 0 7) - 1) → B225 f v2 v3 v4 v5 v6 v7 y18 y21)))))))) → B151 f v2 v3 v4 v5 v6 v7 s0) →
  (∀ (f : sx_F) (v2 : Int32) (v3 : Int32) (v4 : Int32) (v5 : Int32) (v6 : Int32) (v7 : Int32) (v9 : Int32) (s0 : Int32), B226 f v2 v3 v4 v5 v6 v7 v9 s0 0 → B225 f v2 v3 v4 v5 v6 v7 v9 s0) →
  (∀ (f : sx_F) (v2 : Int32) (v3 : Int32) (v4 : Int32) (v5 : Int32) (v6 : Int32) (v7 : Int32) (v9 : Int32) (s0 : Int32) (s1 : Int32), (∀ y26 : Int32, y26 = (s0 + s1) → (vp_in v4 78 ∧ (((f 24 v4.toNatClampNeg) = 0 → B282 f v2 v3 v4 v5 v6 v7 v9 y26) ∧ (¬ (f 24 v4.toNatClampNeg) = 0 → (vp_in v4 78 ∧ ((y26 < (f 22 v4.toNatClampNeg) → B282 f v2 v3 v4 v5 v6 v7 v9 y26) ∧ (¬ y26 < (f 22 v4.toNatClampNeg) → (vp_in v4 78 ∧ ((y26 = (f 22 v4.toNatClampNeg) → (vp_in v9 78 ∧ (vp_in v4 78 ∧ (((f 23 v4.toNatClampNeg) ≤ ((f 23 v9.toNatClampNeg) + 1) → B286 f v2 v3 v4 v5 v6 v7 v9 y26) ∧ (¬ (f 23 v4.toNatClampNeg) ≤ ((f 23 v9.toNatClampNeg) + 1) → B282 f v2 v3 v4 v5 v6 v7 v9 y26))))) ∧ (¬ y26 = (f 22 v4.toNatClampNeg) → B286 f v2 v3 v4 v5 v6 v7 v9 y26)))))))))) → B226 f v2 v3 v4 v5 v6 v7 v9 s0 s1) →
  (∀ (f : sx_F) (v2 : Int32) (v3 : Int32) (v4 : Int32) (v5 : Int32) (v6 : Int32) (v7 : Int32) (v9 : Int32) (v10 : Int32), B287 f v2 v3 v4 v5 v6 v7 v9 v10 1 → B282 f v2 v3 v4 v5 v6 v7 v9 v10) →
  (∀ (f : sx_F) (v2 : Int32) (v3 : Int32) (v4 : Int32) (v5 : Int32) (v6 : Int32) (v7 : Int32) (v9 : Int32) (v10 : Int32), B287 f v2 v3 v4 v5 v6 v7 v9 v10 0 → B286 f v2 v3 v4 v5 v6 v7 v9 v10) →
  (∀ (f : sx_F) (v2 : Int32) (v3 : Int32) (v4 : Int32) (v5 : Int32) (v6 : Int32) (v7 : Int32) (v9 : Int32) (v10 : Int32) (s0 : Int32), ((v7 = 1 → B304 f v2 v3 v4 v5 v6 v7 v9 v10 s0) ∧ (¬ v7 = 1 → (((f 0 6) < v6 → B343 f v2 v3 v4 v5 v6 v7) ∧ (¬ (f 0 6) < v6 → B304 f v2 v3 v4 v5 v6 v7 v9 v10 s0)))) → B287 f v2 v3 v4 v5 v6 v7 v9 v10 s0) →
  (∀ (f : sx_F) (v2 : Int32) (v3 : Int32) (v4 : Int32) (v5 : Int32) (v6 : Int32) (v7 : Int32) (v9 : Int32) (v10 : Int32) (v11 : Int32), ((v11 = 0 → B343 f v2 v3 v4 v5 v6 v7) ∧ (¬ v11 = 0 → (vp_in v4 78 ∧ ∀ g34 : sx_F, g34 = sx_u f 24 v4.toNatClampNeg v7 → (vp_in v4 78 ∧ ∀ g35 : sx_F, g35 = sx_u g34 22 v4.toNatClampNeg v10 → (vp_in v9 78 ∧ (vp_in v4 78 ∧ ∀ g36 : sx_F, g36 = sx_u g35 23 v4.toNatClampNeg ((g35 23 v9.toNatClampNeg) + 1) → B343 g36 v2 v3 v4 v5 v6 v7)))))) → B304 f v2 v3 v4 v5 v6 v7 v9 v10 v11) →
  (∀ (f : sx_F) (v2 : Int32) (v3 : Int32) (v4 : Int32) (v5 : Int32) (v6 : Int32) (v7 : Int32), (∀ y37 : Int32, y37 = v7 + 1 → B92 f v2 v3 v4 v5 v6 y37) → B343 f v2 v3 v4 v5 v6 v7) →
  (∀ (f : sx_F) (v2 : Int32), (((f 0 20) ≤ v2 → Q f) ∧ (¬ (f 0 20) ≤ v2 → (¬ (f 0 7) = 0 ∧ (∀ y39 : Int32, y39 = ((f 0 31) - (f 0 31) / (f 0 7) * (f 0 7)) → (vp_in ((6 * v2) + y39) 78 ∧ (∀ y40 : Int32, y40 = (f 24 ((6 * v2) + y39).toNatClampNeg) → B407 f v2 y39 y40 v2)))))) → B373 f v2) →
  (∀ (f : sx_F) (v2 : Int32) (v3 : Int32) (v4 : Int32) (v5 : Int32), (((v2 + v4) ≤ v5 → (∀ y42 : Int32, y42 = (v2 + v4) → (∀ g43 : sx_F, g43 = sx_u f 0 31 ((f 0 31) + 1) → ((v3 = ((g43 0 7) - 1) → (((g43 0 20) ≤ y42 → B487 g43 y42 (g43 0 32)) ∧ (¬ (g43 0 20) ≤ y42 → (vp_in (y42 - 1) 12 ∧ (P_X7_turnCost g43 x1 (g43 14 (y42 - 1).toNatClampNeg) (fun r46 => B488 g43 y42 (g43 0 32) r46)))))) ∧ (¬ v3 = ((g43 0 7) - 1) → B487 g43 y42 (g43 0 32)))))) ∧ (¬ (v2 + v4) ≤ v5 → (vp_in v5 12 ∧ ∀ g48 : sx_F, g48 = sx_u f 25 v5.toNatClampNeg (f 0 31) → (∀ y49 : Int32, y49 = v5 + 1 → B407 g48 v2 v3 v4 y49)))) → B407 f v2 v3 v4 v5) →
  (∀ (f : sx_F) (v2 : Int32) (s1 : Int32), B488 f v2 s1 0 → B487 f v2 s1) →
  (∀ (f : sx_F) (v2 : Int32) (s1 : Int32) (s2 : Int32), (∀ g50 : sx_F, g50 = sx_u f 0 32 (s1 + s2) → B373 g50 v2) → B488 f v2 s1 s2) →
  B2 f 0
def P_X7_lays (f : sx_F) (x1 : Int32) (Q : sx_F → Prop) : Prop :=
  (P_X7_laysItems f x1 (fun g1 => (P_X7_laysSprings g1 (fun g2 => (P_X7_breaks g2 x1 (fun g3 => Q g3))))))
def P_X7_itemWith (f : sx_F) (x1 : Int32) (Q : Int32 → Prop) : Prop :=
  ∀ (B2 : Int32 → Prop),
  (∀ (v2 : Int32), (vp_in v2 12 ∧ ((x1 ≤ (f 14 v2.toNatClampNeg) → Q v2) ∧ (¬ x1 ≤ (f 14 v2.toNatClampNeg) → (∀ y2 : Int32, y2 = v2 + 1 → B2 y2)))) → B2 v2) →
  B2 0
def P_X7_items (f : sx_F) (x1 : Int32) (Q : Int32 → sx_F → Prop) : Prop :=
  (P_X7_isBook f x1 (fun r1 => (P_X7_goes f r1 1 1 (fun r4 g3 => ((r4 = 0 → Q 0 g3) ∧ (¬ r4 = 0 → (P_X7_laysItems g3 x1 (fun g6 => Q (g6 0 20) g6))))))))
def P_X7_itemOf (f : sx_F) (x1 : Int32) (x2 : Int32) (Q : Int32 → sx_F → Prop) : Prop :=
  ∀ (B20 : sx_F → Prop),
  ∀ (B21 : sx_F → Int32 → Prop),
  (∀ (f : sx_F), B21 f 0 → B20 f) →
  (∀ (f : sx_F) (s1 : Int32), (P_X7_goes f s1 1 1 (fun r2 g1 => ((r2 = 0 → Q 0 g1) ∧ (¬ r2 = 0 → (P_X7_laysItems g1 x1 (fun g4 => (P_X7_itemWith g4 x2 (fun r5 => Q r5 g4)))))))) → B21 f s1) →
  (P_X7_isBook f x1 (fun r7 => ((r7 = 0 → B20 f) ∧ (¬ r7 = 0 → (P_X7_isBar f x2 (fun r10 => ((r10 = 0 → B20 f) ∧ (¬ r10 = 0 → B21 f 1))))))))
def P_X7_cue (f : sx_F) (x1 : Int32) (x2 : Int32) (Q : Int32 → sx_F → Prop) : Prop :=
  ∀ (B20 : sx_F → Prop),
  ∀ (B21 : sx_F → Int32 → Prop),
  (∀ (f : sx_F), B21 f 0 → B20 f) →
  (∀ (f : sx_F) (s1 : Int32), (P_X7_goes f s1 1 1 (fun r2 g1 => ((r2 = 0 → Q 0 g1) ∧ (¬ r2 = 0 → (P_X7_laysItems g1 x1 (fun g4 => (P_X7_itemWith g4 x2 (fun r5 => (vp_in r5 12 ∧ (∀ y7 : Int32, y7 = (g4 15 r5.toNatClampNeg) → ((y7 = x1 → Q (-1) g4) ∧ (¬ y7 = x1 → Q y7 g4)))))))))))) → B21 f s1) →
  (P_X7_isInstrument f x1 (fun r9 => ((r9 = 0 → B20 f) ∧ (¬ r9 = 0 → (P_X7_isBar f x2 (fun r12 => ((r12 = 0 → B20 f) ∧ (¬ r12 = 0 → B21 f 1))))))))
def P_X7_width (f : sx_F) (x1 : Int32) (x2 : Int32) (Q : Int32 → sx_F → Prop) : Prop :=
  ∀ (B14 : sx_F → Int32 → Prop),
  ∀ (B37 : sx_F → Prop),
  ∀ (B38 : sx_F → Int32 → Prop),
  (∀ (f : sx_F) (v3 : Int32), ((v3 = 0 → B37 f) ∧ (¬ v3 = 0 → (P_X7_in f x2 0 ((f 0 20) - 1) (fun r2 => ((r2 = 0 → B37 f) ∧ (¬ r2 = 0 → B38 f 1)))))) → B14 f v3) →
  (∀ (f : sx_F), B38 f 0 → B37 f) →
  (∀ (f : sx_F) (s1 : Int32), (P_X7_goes f s1 1 1 (fun r6 g5 => ((r6 = 0 → Q 0 g5) ∧ (¬ r6 = 0 → (vp_in x2 12 ∧ Q (g5 20 x2.toNatClampNeg) g5))))) → B38 f s1) →
  (P_X7_isBook f x1 (fun r8 => ((r8 = 0 → B14 f r8) ∧ (¬ r8 = 0 → (P_X7_lays f x1 (fun g11 => B14 g11 r8))))))
def P_X7_lines (f : sx_F) (x1 : Int32) (Q : Int32 → sx_F → Prop) : Prop :=
  (P_X7_isBook f x1 (fun r1 => (P_X7_goes f r1 1 1 (fun r4 g3 => ((r4 = 0 → Q 0 g3) ∧ (¬ r4 = 0 → (P_X7_lays g3 x1 (fun g6 => Q (g6 0 31) g6))))))))
def P_X7_lineOf (f : sx_F) (x1 : Int32) (x2 : Int32) (Q : Int32 → sx_F → Prop) : Prop :=
  ∀ (B20 : sx_F → Prop),
  ∀ (B21 : sx_F → Int32 → Prop),
  (∀ (f : sx_F), B21 f 0 → B20 f) →
  (∀ (f : sx_F) (s1 : Int32), (P_X7_goes f s1 1 1 (fun r2 g1 => ((r2 = 0 → Q 0 g1) ∧ (¬ r2 = 0 → (P_X7_lays g1 x1 (fun g4 => (P_X7_itemWith g4 x2 (fun r5 => (vp_in r5 12 ∧ Q (g4 25 r5.toNatClampNeg) g4))))))))) → B21 f s1) →
  (P_X7_isBook f x1 (fun r7 => ((r7 = 0 → B20 f) ∧ (¬ r7 = 0 → (P_X7_isBar f x2 (fun r10 => ((r10 = 0 → B20 f) ∧ (¬ r10 = 0 → B21 f 1))))))))
def P_X7_cost (f : sx_F) (x1 : Int32) (Q : Int32 → sx_F → Prop) : Prop :=
  (P_X7_isBook f x1 (fun r1 => (P_X7_goes f r1 1 1 (fun r4 g3 => ((r4 = 0 → Q 0 g3) ∧ (¬ r4 = 0 → (P_X7_lays g3 x1 (fun g6 => (((g6 0 20) = 0 → Q 0 g6) ∧ (¬ (g6 0 20) = 0 → (vp_in 0 78 ∧ Q (g6 22 (0 : Int32).toNatClampNeg) g6)))))))))))
def P_X7_costByAll (f : sx_F) (x1 : Int32) (Q : Int32 → sx_F → Prop) : Prop :=
  (P_X7_cost f x1 (fun r2 g1 => Q r2 g1))
def P_X7_turns (f : sx_F) (x1 : Int32) (Q : Int32 → sx_F → Prop) : Prop :=
  (P_X7_isBook f x1 (fun r1 => (P_X7_goes f r1 1 1 (fun r4 g3 => ((r4 = 0 → Q 0 g3) ∧ (¬ r4 = 0 → (P_X7_lays g3 x1 (fun g6 => Q (g6 0 32) g6))))))))
def P_X7_springAt (f : sx_F) (x1 : Int32) (x2 : Int32) (Q : Int32 → Prop) : Prop :=
  ∀ (B14 : Int32 → Int32 → Prop),
  ∀ (B51 : Int32 → Int32 → Prop),
  (∀ (v3 : Int32) (v4 : Int32), (vp_in (v3 + 1) 13 ∧ (((f 16 (v3 + 1).toNatClampNeg) ≤ v4 → Q (-1)) ∧ (¬ (f 16 (v3 + 1).toNatClampNeg) ≤ v4 → (vp_in v3 12 ∧ (((f 13 v3.toNatClampNeg) = x1 → (vp_in v4 400 ∧ (((f 17 v4.toNatClampNeg) = x2 → Q v4) ∧ (¬ (f 17 v4.toNatClampNeg) = x2 → B51 v3 v4)))) ∧ (¬ (f 13 v3.toNatClampNeg) = x1 → B51 v3 v4)))))) → B14 v3 v4) →
  (∀ (v3 : Int32) (v4 : Int32), (∀ y4 : Int32, y4 = v4 + 1 → B14 v3 y4) → B51 v3 v4) →
  (P_X7_itemWith f x1 (fun r5 => (vp_in r5 13 ∧ (∀ y7 : Int32, y7 = (f 16 r5.toNatClampNeg) → B14 r5 y7))))
def P_X7_placeOf (f : sx_F) (x1 : Int32) (x2 : Int32) (Q : Int32 → Prop) : Prop :=
  ∀ (B35 : Int32 → Int32 → Int32 → Int32 → Int32 → Int32 → Int32 → Int32 → Int32 → Prop),
  ∀ (B68 : Int32 → Int32 → Int32 → Int32 → Int32 → Int32 → Int32 → Int32 → Int32 → Prop),
  ∀ (B69 : Int32 → Int32 → Int32 → Int32 → Int32 → Int32 → Int32 → Int32 → Int32 → Int32 → Prop),
  ∀ (B91 : Int32 → Int32 → Int32 → Int32 → Int32 → Int32 → Int32 → Int32 → Int32 → Int32 → Prop),
  ∀ (B103 : Int32 → Int32 → Int32 → Int32 → Int32 → Int32 → Int32 → Int32 → Int32 → Int32 → Prop),
  ∀ (B172 : Int32 → Int32 → Int32 → Int32 → Int32 → Int32 → Int32 → Int32 → Int32 → Int32 → Int32 → Prop),
  ∀ (B194 : Int32 → Int32 → Int32 → Int32 → Int32 → Int32 → Int32 → Int32 → Int32 → Int32 → Int32 → Prop),
  ∀ (B203 : Int32 → Int32 → Int32 → Int32 → Int32 → Int32 → Int32 → Int32 → Int32 → Prop),
  ∀ (B264 : Int32 → Int32 → Int32 → Int32 → Int32 → Int32 → Prop),
  ∀ (B298 : Int32 → Int32 → Int32 → Int32 → Int32 → Int32 → Prop),
  (∀ (v3 : Int32) (v4 : Int32) (v5 : Int32) (v6 : Int32) (v7 : Int32) (v8 : Int32) (v9 : Int32) (v10 : Int32) (v11 : Int32), (((f 0 20) ≤ v11 → (∀ y2 : Int32, y2 = (((8 * v10) + 4) + v5) → (∀ y3 : Int32, y3 = (((f 0 6) - (8 * v9)) - v7) → ((y3 ≤ 0 → B264 v5 v6 v7 v8 y2 y3) ∧ (¬ y3 ≤ 0 → ((((f 0 31) - 1) ≤ v4 → B264 v5 v6 v7 v8 y2 y3) ∧ (¬ ((f 0 31) - 1) ≤ v4 → (¬ v7 = 0 ∧ Q (y2 + ((y3 * v5) / v7)))))))))) ∧ (¬ (f 0 20) ≤ v11 → (vp_in v11 12 ∧ (((f 25 v11.toNatClampNeg) = v4 → ((v3 ≤ v11 → B68 v3 v4 v5 v6 v7 v8 v9 v11 v10) ∧ (¬ v3 ≤ v11 → B69 v3 v4 v5 v6 v7 v8 v9 v11 v10 1))) ∧ (¬ (f 25 v11.toNatClampNeg) = v4 → B68 v3 v4 v5 v6 v7 v8 v9 v11 v10))))) → B35 v3 v4 v5 v6 v7 v8 v9 v10 v11) →
  (∀ (v3 : Int32) (v4 : Int32) (v5 : Int32) (v6 : Int32) (v7 : Int32) (v8 : Int32) (v9 : Int32) (v11 : Int32) (s0 : Int32), B69 v3 v4 v5 v6 v7 v8 v9 v11 s0 0 → B68 v3 v4 v5 v6 v7 v8 v9 v11 s0) →
  (∀ (v3 : Int32) (v4 : Int32) (v5 : Int32) (v6 : Int32) (v7 : Int32) (v8 : Int32) (v9 : Int32) (v11 : Int32) (s0 : Int32) (s1 : Int32), (∀ y8 : Int32, y8 = (s0 + s1) → (vp_in v11 12 ∧ (((f 25 v11.toNatClampNeg) = v4 → B91 v3 v4 v5 v6 v7 v8 y8 v11 v9 1) ∧ (¬ (f 25 v11.toNatClampNeg) = v4 → B91 v3 v4 v5 v6 v7 v8 y8 v11 v9 0)))) → B69 v3 v4 v5 v6 v7 v8 v9 v11 s0 s1) →
  (∀ (v3 : Int32) (v4 : Int32) (v5 : Int32) (v6 : Int32) (v7 : Int32) (v8 : Int32) (v10 : Int32) (v11 : Int32) (s0 : Int32) (s1 : Int32), (∀ y10 : Int32, y10 = (s0 + s1) → (vp_in v11 13 ∧ (∀ y11 : Int32, y11 = (f 16 v11.toNatClampNeg) → B103 v3 v4 v5 v6 v7 v8 y10 v10 v11 y11))) → B91 v3 v4 v5 v6 v7 v8 v10 v11 s0 s1) →
  (∀ (v3 : Int32) (v4 : Int32) (v5 : Int32) (v6 : Int32) (v7 : Int32) (v8 : Int32) (v9 : Int32) (v10 : Int32) (v11 : Int32) (v12 : Int32), (vp_in (v11 + 1) 13 ∧ (((f 16 (v11 + 1).toNatClampNeg) ≤ v12 → B203 v3 v4 v5 v6 v7 v8 v9 v10 v11) ∧ (¬ (f 16 (v11 + 1).toNatClampNeg) ≤ v12 → (vp_in v11 12 ∧ (((f 25 v11.toNatClampNeg) = v4 → (vp_in v12 400 ∧ (∀ y14 : Int32, y14 = (v7 + (f 18 v12.toNatClampNeg)) → (vp_in v12 400 ∧ (∀ y15 : Int32, y15 = (v8 + (f 19 v12.toNatClampNeg)) → ((x2 ≤ v12 → B172 v3 v4 v6 y14 y15 v9 v10 v11 v12 v5 0) ∧ (¬ x2 ≤ v12 → (vp_in v12 400 ∧ B172 v3 v4 v6 y14 y15 v9 v10 v11 v12 v5 (f 18 v12.toNatClampNeg))))))))) ∧ (¬ (f 25 v11.toNatClampNeg) = v4 → B203 v3 v4 v5 v6 v7 v8 v9 v10 v11)))))) → B103 v3 v4 v5 v6 v7 v8 v9 v10 v11 v12) →
  (∀ (v3 : Int32) (v4 : Int32) (v6 : Int32) (v7 : Int32) (v8 : Int32) (v9 : Int32) (v10 : Int32) (v11 : Int32) (v12 : Int32) (s0 : Int32) (s1 : Int32), (∀ y17 : Int32, y17 = (s0 + s1) → ((x2 ≤ v12 → B194 v3 v4 y17 v7 v8 v9 v10 v11 v12 v6 0) ∧ (¬ x2 ≤ v12 → (vp_in v12 400 ∧ B194 v3 v4 y17 v7 v8 v9 v10 v11 v12 v6 (f 19 v12.toNatClampNeg))))) → B172 v3 v4 v6 v7 v8 v9 v10 v11 v12 s0 s1) →
  (∀ (v3 : Int32) (v4 : Int32) (v5 : Int32) (v7 : Int32) (v8 : Int32) (v9 : Int32) (v10 : Int32) (v11 : Int32) (v12 : Int32) (s0 : Int32) (s1 : Int32), (∀ y19 : Int32, y19 = (s0 + s1) → (∀ y20 : Int32, y20 = v12 + 1 → B103 v3 v4 v5 y19 v7 v8 v9 v10 v11 y20)) → B194 v3 v4 v5 v7 v8 v9 v10 v11 v12 s0 s1) →
  (∀ (v3 : Int32) (v4 : Int32) (v5 : Int32) (v6 : Int32) (v7 : Int32) (v8 : Int32) (v9 : Int32) (v10 : Int32) (v11 : Int32), (∀ y21 : Int32, y21 = v11 + 1 → B35 v3 v4 v5 v6 v7 v8 v9 v10 y21) → B203 v3 v4 v5 v6 v7 v8 v9 v10 v11) →
  (∀ (v5 : Int32) (v6 : Int32) (v7 : Int32) (v8 : Int32) (v11 : Int32) (v12 : Int32), ((0 ≤ v12 → Q v11) ∧ (¬ 0 ≤ v12 → ((v7 ≤ v8 → Q v11) ∧ (¬ v7 ≤ v8 → (((v7 - v8) ≤ (-v12) → B298 v5 v6 v7 v8 v11 (v7 - v8)) ∧ (¬ (v7 - v8) ≤ (-v12) → B298 v5 v6 v7 v8 v11 (-v12))))))) → B264 v5 v6 v7 v8 v11 v12) →
  (∀ (v5 : Int32) (v6 : Int32) (v7 : Int32) (v8 : Int32) (v11 : Int32) (s0 : Int32), (¬ (v7 - v8) = 0 ∧ Q (v11 - ((s0 * (v5 - v6)) / (v7 - v8)))) → B298 v5 v6 v7 v8 v11 s0) →
  (P_X7_itemWith f x1 (fun r25 => (vp_in r25 12 ∧ (∀ y27 : Int32, y27 = (f 25 r25.toNatClampNeg) → B35 r25 y27 0 0 0 0 0 0 0))))
def P_X7_place (f : sx_F) (x1 : Int32) (x2 : Int32) (x3 : Int32) (Q : Int32 → sx_F → Prop) : Prop :=
  ∀ (B19 : sx_F → Prop),
  ∀ (B20 : sx_F → Int32 → Prop),
  ∀ (B43 : sx_F → Int32 → Prop),
  ∀ (B55 : sx_F → Int32 → Int32 → Prop),
  (∀ (f : sx_F), B20 f 0 → B19 f) →
  (∀ (f : sx_F) (s0 : Int32), ((s0 = 0 → B43 f (-1)) ∧ (¬ s0 = 0 → (P_X7_lays f x1 (fun g2 => (P_X7_springAt g2 x2 x3 (fun r3 => B43 g2 r3)))))) → B20 f s0) →
  (∀ (f : sx_F) (v5 : Int32), ((v5 = (-1) → B55 f v5 0) ∧ (¬ v5 = (-1) → B55 f v5 1)) → B43 f v5) →
  (∀ (f : sx_F) (v5 : Int32) (s1 : Int32), (P_X7_goes f s1 1 1 (fun r7 g6 => ((r7 = 0 → Q 0 g6) ∧ (¬ r7 = 0 → (P_X7_placeOf g6 x2 v5 (fun r9 => Q r9 g6)))))) → B55 f v5 s1) →
  (P_X7_isBook f x1 (fun r11 => ((r11 = 0 → B19 f) ∧ (¬ r11 = 0 → (P_X7_isBar f x2 (fun r14 => ((r14 = 0 → B19 f) ∧ (¬ r14 = 0 → B20 f 1))))))))
def P_X7_copies (f : sx_F)  (Q : Int32 → sx_F → Prop) : Prop :=
  (∀ g1 : sx_F, g1 = sx_u f 0 33 0 → Q (g1 0 11) g1)
def P_X7_deskOf (f : sx_F) (x1 : Int32) (Q : Int32 → sx_F → Prop) : Prop :=
  (P_X7_isCopy f x1 (fun r1 => (P_X7_goes f r1 1 1 (fun r4 g3 => ((r4 = 0 → Q 0 g3) ∧ (¬ r4 = 0 → (vp_in x1 16 ∧ Q (g3 7 x1.toNatClampNeg) g3)))))))
def P_X7_has (f : sx_F) (x1 : Int32) (x2 : Int32) (Q : Int32 → sx_F → Prop) : Prop :=
  ∀ (B21 : sx_F → Prop),
  ∀ (B22 : sx_F → Int32 → Prop),
  (∀ (f : sx_F), B22 f 0 → B21 f) →
  (∀ (f : sx_F) (s1 : Int32), (P_X7_goes f s1 1 1 (fun r2 g1 => ((r2 = 0 → Q 0 g1) ∧ (¬ r2 = 0 → (vp_in x1 16 ∧ (((g1 7 x1.toNatClampNeg) = (-1) → (vp_in x1 16 ∧ (P_X7_cell g1 (g1 6 x1.toNatClampNeg) x2 (fun r5 => (vp_in r5 60 ∧ Q (g1 5 r5.toNatClampNeg) g1))))) ∧ (¬ (g1 7 x1.toNatClampNeg) = (-1) → (vp_in ((12 * x1) + x2) 192 ∧ Q (g1 8 ((12 * x1) + x2).toNatClampNeg) g1)))))))) → B22 f s1) →
  (P_X7_isCopy f x1 (fun r7 => ((r7 = 0 → B21 f) ∧ (¬ r7 = 0 → (P_X7_isBar f x2 (fun r10 => ((r10 = 0 → B21 f) ∧ (¬ r10 = 0 → B22 f 1))))))))
def P_X7_owed (f : sx_F) (x1 : Int32) (Q : Int32 → sx_F → Prop) : Prop :=
  (P_X7_isCopy f x1 (fun r1 => (P_X7_goes f r1 1 1 (fun r4 g3 => ((r4 = 0 → Q 0 g3) ∧ (¬ r4 = 0 → (P_X7_owedBy g3 x1 (fun r6 => Q r6 g3))))))))
def P_X7_markOf (f : sx_F) (x1 : Int32) (x2 : Int32) (x3 : Int32) (Q : Int32 → sx_F → Prop) : Prop :=
  ∀ (B28 : sx_F → Prop),
  ∀ (B29 : sx_F → Int32 → Prop),
  (∀ (f : sx_F), B29 f 0 → B28 f) →
  (∀ (f : sx_F) (s0 : Int32), (P_X7_goes f s0 1 1 (fun r2 g1 => ((r2 = 0 → Q 0 g1) ∧ (¬ r2 = 0 → (P_X7_cell g1 x2 x3 (fun r4 => (vp_in ((60 * x1) + r4) 360 ∧ Q (g1 9 ((60 * x1) + r4).toNatClampNeg) g1))))))) → B29 f s0) →
  (P_X7_in f x1 0 5 (fun r6 => ((r6 = 0 → B28 f) ∧ (¬ r6 = 0 → (P_X7_isInstrument f x2 (fun r9 => ((r9 = 0 → B28 f) ∧ (¬ r9 = 0 → (P_X7_isBar f x3 (fun r12 => ((r12 = 0 → B28 f) ∧ (¬ r12 = 0 → B29 f 1))))))))))))
def P_X7_oldMarks (f : sx_F) (x1 : Int32) (Q : Int32 → sx_F → Prop) : Prop :=
  ∀ (B18 : sx_F → Int32 → Int32 → Int32 → Prop),
  ∀ (B71 : sx_F → Int32 → Int32 → Int32 → Prop),
  ∀ (B72 : sx_F → Int32 → Int32 → Int32 → Int32 → Prop),
  (∀ (f : sx_F) (v2 : Int32) (v3 : Int32) (v4 : Int32), ((v3 = 0 → Q v2 f) ∧ (¬ v3 = 0 → ((60 ≤ v4 → Q v2 f) ∧ (¬ 60 ≤ v4 → (vp_in ((60 * x1) + v4) 360 ∧ (((f 9 ((60 * x1) + v4).toNatClampNeg) ≤ 0 → B71 f v3 v4 v2) ∧ (¬ (f 9 ((60 * x1) + v4).toNatClampNeg) ≤ 0 → (vp_in ((60 * x1) + v4) 360 ∧ (vp_in v4 60 ∧ (((f 10 ((60 * x1) + v4).toNatClampNeg) = (f 5 v4.toNatClampNeg) → B71 f v3 v4 v2) ∧ (¬ (f 10 ((60 * x1) + v4).toNatClampNeg) = (f 5 v4.toNatClampNeg) → B72 f v3 v4 v2 1))))))))))) → B18 f v2 v3 v4) →
  (∀ (f : sx_F) (v3 : Int32) (v4 : Int32) (s0 : Int32), B72 f v3 v4 s0 0 → B71 f v3 v4 s0) →
  (∀ (f : sx_F) (v3 : Int32) (v4 : Int32) (s0 : Int32) (s1 : Int32), (∀ y5 : Int32, y5 = (s0 + s1) → (∀ y6 : Int32, y6 = v4 + 1 → B18 f y5 v3 y6)) → B72 f v3 v4 s0 s1) →
  (P_X7_in f x1 0 5 (fun r7 => (P_X7_goes f r7 1 1 (fun r10 g9 => B18 g9 0 r10 0))))
def P_X7_clashes (f : sx_F) (x1 : Int32) (Q : Int32 → sx_F → Prop) : Prop :=
  ∀ (B16 : sx_F → Int32 → Int32 → Int32 → Prop),
  ∀ (B40 : sx_F → Int32 → Int32 → Int32 → Int32 → Int32 → Prop),
  ∀ (B55 : sx_F → Int32 → Int32 → Int32 → Int32 → Int32 → Int32 → Prop),
  ∀ (B110 : sx_F → Int32 → Int32 → Int32 → Int32 → Int32 → Int32 → Prop),
  ∀ (B111 : sx_F → Int32 → Int32 → Int32 → Int32 → Int32 → Int32 → Int32 → Prop),
  (∀ (f : sx_F) (v2 : Int32) (v3 : Int32) (v4 : Int32), ((v3 = 0 → Q v2 f) ∧ (¬ v3 = 0 → (((f 0 5) ≤ v4 → Q v2 f) ∧ (¬ (f 0 5) ≤ v4 → (P_X7_cell f x1 v4 (fun r3 => B40 f v2 v3 v4 r3 0)))))) → B16 f v2 v3 v4) →
  (∀ (f : sx_F) (v2 : Int32) (v3 : Int32) (v4 : Int32) (v5 : Int32) (v6 : Int32), (vp_in v5 60 ∧ (((f 4 v5.toNatClampNeg) ≤ v6 → (∀ y6 : Int32, y6 = v4 + 1 → B16 f v2 v3 y6)) ∧ (¬ (f 4 v5.toNatClampNeg) ≤ v6 → B55 f v2 v3 v4 v5 v6 0))) → B40 f v2 v3 v4 v5 v6) →
  (∀ (f : sx_F) (v2 : Int32) (v3 : Int32) (v4 : Int32) (v5 : Int32) (v6 : Int32) (v7 : Int32), ((6 ≤ v7 → (∀ y8 : Int32, y8 = v6 + 1 → B40 f v2 v3 v4 v5 y8)) ∧ (¬ 6 ≤ v7 → (P_X7_bowing f v7 v5 v6 (fun r9 => (P_X7_bowing f (v7 + 1) v5 v6 (fun r11 => ((r9 ≤ 0 → B110 f v3 v4 v5 v6 v7 v2) ∧ (¬ r9 ≤ 0 → ((r11 ≤ 0 → B110 f v3 v4 v5 v6 v7 v2) ∧ (¬ r11 ≤ 0 → ((r9 = r11 → B110 f v3 v4 v5 v6 v7 v2) ∧ (¬ r9 = r11 → B111 f v3 v4 v5 v6 v7 v2 1)))))))))))) → B55 f v2 v3 v4 v5 v6 v7) →
  (∀ (f : sx_F) (v3 : Int32) (v4 : Int32) (v5 : Int32) (v6 : Int32) (v7 : Int32) (s0 : Int32), B111 f v3 v4 v5 v6 v7 s0 0 → B110 f v3 v4 v5 v6 v7 s0) →
  (∀ (f : sx_F) (v3 : Int32) (v4 : Int32) (v5 : Int32) (v6 : Int32) (v7 : Int32) (s0 : Int32) (s1 : Int32), (∀ y16 : Int32, y16 = (s0 + s1) → (∀ y17 : Int32, y17 = v7 + 2 → B55 f y16 v3 v4 v5 v6 y17)) → B111 f v3 v4 v5 v6 v7 s0 s1) →
  (P_X7_isInstrument f x1 (fun r18 => (P_X7_goes f r18 1 1 (fun r21 g20 => B16 g20 0 r21 0))))
def P_X7_concerts (f : sx_F)  (Q : Int32 → sx_F → Prop) : Prop :=
  (∀ g1 : sx_F, g1 = sx_u f 0 33 0 → Q (g1 0 12) g1)
end
section
def P_L_bar (f : sx_F) (o : Nat → Int64) (x1 : Int32) (QL : Int32 → sx_F → (Nat → Int64) → Prop) : Prop :=
  P_X6_bar f x1 (fun r f1 => ∀ o1 : Nat → Int64, o1 = vp_updL o 0 r.toInt64 → QL 0 f1 o1) (fun E f1 => (E = "java/lang/IllegalArgumentException" ∧ QL 1 f1 o) ∨ (E = "java/lang/IllegalStateException" ∧ QL 2 f1 o))
def P_L_note (f : sx_F) (o : Nat → Int64) (x1 : Int32) (x2 : Int32) (x3 : Int32) (x4 : Int32) (QL : Int32 → sx_F → (Nat → Int64) → Prop) : Prop :=
  P_X6_note f x1 x2 x3 x4 (fun r f1 => ∀ o1 : Nat → Int64, o1 = vp_updL o 0 r.toInt64 → QL 0 f1 o1) (fun E f1 => (E = "java/lang/IndexOutOfBoundsException" ∧ QL 1 f1 o) ∨ (E = "java/lang/IllegalArgumentException" ∧ QL 2 f1 o) ∨ (E = "java/lang/IllegalStateException" ∧ QL 3 f1 o))
def P_L_mend (f : sx_F) (o : Nat → Int64) (x1 : Int32) (x2 : Int32) (x3 : Int32) (x4 : Int32) (QL : Int32 → sx_F → (Nat → Int64) → Prop) : Prop :=
  P_X6_mend f x1 x2 x3 x4 (fun r f1 => ∀ o1 : Nat → Int64, o1 = vp_updL o 0 r.toInt64 → QL 0 f1 o1) (fun E f1 => (E = "java/lang/IndexOutOfBoundsException" ∧ QL 1 f1 o) ∨ (E = "java/lang/IllegalArgumentException" ∧ QL 2 f1 o))
def P_L_empty (f : sx_F) (o : Nat → Int64) (x1 : Int32) (x2 : Int32) (QL : Int32 → sx_F → (Nat → Int64) → Prop) : Prop :=
  P_X6_empty f x1 x2 (fun r f1 => ∀ o1 : Nat → Int64, o1 = vp_updL o 0 r.toInt64 → QL 0 f1 o1) (fun E f1 => (E = "java/lang/IndexOutOfBoundsException" ∧ QL 1 f1 o))
def P_L_setPaper (f : sx_F) (o : Nat → Int64) (x1 : Int32) (x2 : Int32) (QL : Int32 → sx_F → (Nat → Int64) → Prop) : Prop :=
  P_X6_setPaper f x1 x2 (fun r f1 => ∀ o1 : Nat → Int64, o1 = vp_updL o 0 r.toInt64 → QL 0 f1 o1) (fun E f1 => (E = "java/lang/IllegalArgumentException" ∧ QL 1 f1 o))
def P_L_copy (f : sx_F) (o : Nat → Int64) (x1 : Int32) (QL : Int32 → sx_F → (Nat → Int64) → Prop) : Prop :=
  P_X6_copy f x1 (fun r f1 => ∀ o1 : Nat → Int64, o1 = vp_updL o 0 r.toInt64 → QL 0 f1 o1) (fun E f1 => (E = "java/lang/IndexOutOfBoundsException" ∧ QL 1 f1 o) ∨ (E = "java/lang/IllegalStateException" ∧ QL 2 f1 o))
def P_L_lend (f : sx_F) (o : Nat → Int64) (x1 : Int32) (x2 : Int32) (QL : Int32 → sx_F → (Nat → Int64) → Prop) : Prop :=
  P_X6_lend f x1 x2 (fun r f1 => ∀ o1 : Nat → Int64, o1 = vp_updL o 0 r.toInt64 → QL 0 f1 o1) (fun E f1 => (E = "java/lang/IndexOutOfBoundsException" ∧ QL 1 f1 o) ∨ (E = "java/lang/IllegalStateException" ∧ QL 2 f1 o))
def P_L_giveBack (f : sx_F) (o : Nat → Int64) (x1 : Int32) (QL : Int32 → sx_F → (Nat → Int64) → Prop) : Prop :=
  P_X6_giveBack f x1 (fun r f1 => ∀ o1 : Nat → Int64, o1 = vp_updL o 0 r.toInt64 → QL 0 f1 o1) (fun E f1 => (E = "java/lang/IndexOutOfBoundsException" ∧ QL 1 f1 o) ∨ (E = "java/lang/IllegalStateException" ∧ QL 2 f1 o))
def P_L_paste (f : sx_F) (o : Nat → Int64) (x1 : Int32) (QL : Int32 → sx_F → (Nat → Int64) → Prop) : Prop :=
  P_X6_paste f x1 (fun r f1 => ∀ o1 : Nat → Int64, o1 = vp_updL o 0 r.toInt64 → QL 0 f1 o1) (fun E f1 => (E = "java/lang/IndexOutOfBoundsException" ∧ QL 1 f1 o) ∨ (E = "java/lang/IllegalStateException" ∧ QL 2 f1 o))
def P_L_mark (f : sx_F) (o : Nat → Int64) (x1 : Int32) (x2 : Int32) (x3 : Int32) (QL : Int32 → sx_F → (Nat → Int64) → Prop) : Prop :=
  P_X6_mark f x1 x2 x3 (fun r f1 => ∀ o1 : Nat → Int64, o1 = vp_updL o 0 r.toInt64 → QL 0 f1 o1) (fun E f1 => (E = "java/lang/IndexOutOfBoundsException" ∧ QL 1 f1 o) ∨ (E = "java/lang/IllegalArgumentException" ∧ QL 2 f1 o) ∨ (E = "java/lang/IllegalStateException" ∧ QL 3 f1 o))
def P_L_bow (f : sx_F) (o : Nat → Int64) (x1 : Int32) (x2 : Int32) (x3 : Int32) (x4 : Int32) (QL : Int32 → sx_F → (Nat → Int64) → Prop) : Prop :=
  P_X6_bow f x1 x2 x3 x4 (fun r f1 => ∀ o1 : Nat → Int64, o1 = vp_updL o 0 r.toInt64 → QL 0 f1 o1) (fun E f1 => (E = "java/lang/IndexOutOfBoundsException" ∧ QL 1 f1 o) ∨ (E = "java/lang/IllegalArgumentException" ∧ QL 2 f1 o) ∨ (E = "java/lang/IllegalStateException" ∧ QL 3 f1 o))
def P_L_play (f : sx_F) (o : Nat → Int64) (QL : Int32 → sx_F → (Nat → Int64) → Prop) : Prop :=
  P_X6_play f  (fun r f1 => ∀ o1 : Nat → Int64, o1 = vp_updL o 0 r.toInt64 → QL 0 f1 o1) (fun E f1 => (E = "java/lang/IllegalStateException" ∧ QL 1 f1 o))
def P_L_notes (f : sx_F) (o : Nat → Int64) (x1 : Int32) (x2 : Int32) (QL : Int32 → sx_F → (Nat → Int64) → Prop) : Prop :=
  P_X6_notes f x1 x2 (fun r => ∀ o1 : Nat → Int64, o1 = vp_updL o 0 r.toInt64 → QL 0 f o1) (fun E => (E = "java/lang/IndexOutOfBoundsException" ∧ QL 1 f o))
def P_L_noteAt (f : sx_F) (o : Nat → Int64) (x1 : Int32) (x2 : Int32) (x3 : Int32) (QL : Int32 → sx_F → (Nat → Int64) → Prop) : Prop :=
  P_X6_noteAt f x1 x2 x3 (fun r => ∀ o1 : Nat → Int64, o1 = vp_updL o 0 r.toInt64 → QL 0 f o1) (fun E => (E = "java/lang/IndexOutOfBoundsException" ∧ QL 1 f o))
def P_L_version (f : sx_F) (o : Nat → Int64) (x1 : Int32) (x2 : Int32) (QL : Int32 → sx_F → (Nat → Int64) → Prop) : Prop :=
  P_X6_version f x1 x2 (fun r => ∀ o1 : Nat → Int64, o1 = vp_updL o 0 r.toInt64 → QL 0 f o1) (fun E => (E = "java/lang/IndexOutOfBoundsException" ∧ QL 1 f o))
def P_L_time (f : sx_F) (o : Nat → Int64) (x1 : Int32) (QL : Int32 → sx_F → (Nat → Int64) → Prop) : Prop :=
  P_X6_time f x1 (fun r => ∀ o1 : Nat → Int64, o1 = vp_updL o 0 r.toInt64 → QL 0 f o1) (fun E => (E = "java/lang/IndexOutOfBoundsException" ∧ QL 1 f o))
def P_L_timeByBars (f : sx_F) (o : Nat → Int64) (x1 : Int32) (QL : Int32 → sx_F → (Nat → Int64) → Prop) : Prop :=
  P_X6_timeByBars f x1 (fun r => ∀ o1 : Nat → Int64, o1 = vp_updL o 0 r.toInt64 → QL 0 f o1) (fun E => (E = "java/lang/IndexOutOfBoundsException" ∧ QL 1 f o))
def P_L_items (f : sx_F) (o : Nat → Int64) (x1 : Int32) (QL : Int32 → sx_F → (Nat → Int64) → Prop) : Prop :=
  P_X6_items f x1 (fun r f1 => ∀ o1 : Nat → Int64, o1 = vp_updL o 0 r.toInt64 → QL 0 f1 o1) (fun E f1 => (E = "java/lang/IndexOutOfBoundsException" ∧ QL 1 f1 o))
def P_L_itemOf (f : sx_F) (o : Nat → Int64) (x1 : Int32) (x2 : Int32) (QL : Int32 → sx_F → (Nat → Int64) → Prop) : Prop :=
  P_X6_itemOf f x1 x2 (fun r f1 => ∀ o1 : Nat → Int64, o1 = vp_updL o 0 r.toInt64 → QL 0 f1 o1) (fun E f1 => (E = "java/lang/IndexOutOfBoundsException" ∧ QL 1 f1 o))
def P_L_cue (f : sx_F) (o : Nat → Int64) (x1 : Int32) (x2 : Int32) (QL : Int32 → sx_F → (Nat → Int64) → Prop) : Prop :=
  P_X6_cue f x1 x2 (fun r => ∀ o1 : Nat → Int64, o1 = vp_updL o 0 r.toInt64 → QL 0 f o1) (fun E => (E = "java/lang/IndexOutOfBoundsException" ∧ QL 1 f o))
def P_L_width (f : sx_F) (o : Nat → Int64) (x1 : Int32) (x2 : Int32) (QL : Int32 → sx_F → (Nat → Int64) → Prop) : Prop :=
  P_X6_width f x1 x2 (fun r f1 => ∀ o1 : Nat → Int64, o1 = vp_updL o 0 r.toInt64 → QL 0 f1 o1) (fun E f1 => (E = "java/lang/IndexOutOfBoundsException" ∧ QL 1 f1 o))
def P_L_lines (f : sx_F) (o : Nat → Int64) (x1 : Int32) (QL : Int32 → sx_F → (Nat → Int64) → Prop) : Prop :=
  P_X6_lines f x1 (fun r f1 => ∀ o1 : Nat → Int64, o1 = vp_updL o 0 r.toInt64 → QL 0 f1 o1) (fun E f1 => (E = "java/lang/IndexOutOfBoundsException" ∧ QL 1 f1 o))
def P_L_lineOf (f : sx_F) (o : Nat → Int64) (x1 : Int32) (x2 : Int32) (QL : Int32 → sx_F → (Nat → Int64) → Prop) : Prop :=
  P_X6_lineOf f x1 x2 (fun r f1 => ∀ o1 : Nat → Int64, o1 = vp_updL o 0 r.toInt64 → QL 0 f1 o1) (fun E f1 => (E = "java/lang/IndexOutOfBoundsException" ∧ QL 1 f1 o))
def P_L_cost (f : sx_F) (o : Nat → Int64) (x1 : Int32) (QL : Int32 → sx_F → (Nat → Int64) → Prop) : Prop :=
  P_X6_cost f x1 (fun r f1 => ∀ o1 : Nat → Int64, o1 = vp_updL o 0 r.toInt64 → QL 0 f1 o1) (fun E f1 => (E = "java/lang/IndexOutOfBoundsException" ∧ QL 1 f1 o))
def P_L_costByAll (f : sx_F) (o : Nat → Int64) (x1 : Int32) (QL : Int32 → sx_F → (Nat → Int64) → Prop) : Prop :=
  P_X6_costByAll f x1 (fun r f1 => ∀ o1 : Nat → Int64, o1 = vp_updL o 0 r.toInt64 → QL 0 f1 o1) (fun E f1 => (E = "java/lang/IndexOutOfBoundsException" ∧ QL 1 f1 o))
def P_L_turns (f : sx_F) (o : Nat → Int64) (x1 : Int32) (QL : Int32 → sx_F → (Nat → Int64) → Prop) : Prop :=
  P_X6_turns f x1 (fun r f1 => ∀ o1 : Nat → Int64, o1 = vp_updL o 0 r.toInt64 → QL 0 f1 o1) (fun E f1 => (E = "java/lang/IndexOutOfBoundsException" ∧ QL 1 f1 o))
def P_L_place (f : sx_F) (o : Nat → Int64) (x1 : Int32) (x2 : Int32) (x3 : Int32) (QL : Int32 → sx_F → (Nat → Int64) → Prop) : Prop :=
  P_X6_place f x1 x2 x3 (fun r f1 => ∀ o1 : Nat → Int64, o1 = vp_updL o 0 r.toInt64 → QL 0 f1 o1) (fun E f1 => (E = "java/lang/IndexOutOfBoundsException" ∧ QL 1 f1 o))
def P_L_deskOf (f : sx_F) (o : Nat → Int64) (x1 : Int32) (QL : Int32 → sx_F → (Nat → Int64) → Prop) : Prop :=
  P_X6_deskOf f x1 (fun r => ∀ o1 : Nat → Int64, o1 = vp_updL o 0 r.toInt64 → QL 0 f o1) (fun E => (E = "java/lang/IndexOutOfBoundsException" ∧ QL 1 f o))
def P_L_has (f : sx_F) (o : Nat → Int64) (x1 : Int32) (x2 : Int32) (QL : Int32 → sx_F → (Nat → Int64) → Prop) : Prop :=
  P_X6_has f x1 x2 (fun r => ∀ o1 : Nat → Int64, o1 = vp_updL o 0 r.toInt64 → QL 0 f o1) (fun E => (E = "java/lang/IndexOutOfBoundsException" ∧ QL 1 f o))
def P_L_owed (f : sx_F) (o : Nat → Int64) (x1 : Int32) (QL : Int32 → sx_F → (Nat → Int64) → Prop) : Prop :=
  P_X6_owed f x1 (fun r => ∀ o1 : Nat → Int64, o1 = vp_updL o 0 r.toInt64 → QL 0 f o1) (fun E => (E = "java/lang/IndexOutOfBoundsException" ∧ QL 1 f o))
def P_L_markOf (f : sx_F) (o : Nat → Int64) (x1 : Int32) (x2 : Int32) (x3 : Int32) (QL : Int32 → sx_F → (Nat → Int64) → Prop) : Prop :=
  P_X6_markOf f x1 x2 x3 (fun r => ∀ o1 : Nat → Int64, o1 = vp_updL o 0 r.toInt64 → QL 0 f o1) (fun E => (E = "java/lang/IndexOutOfBoundsException" ∧ QL 1 f o))
def P_L_oldMarks (f : sx_F) (o : Nat → Int64) (x1 : Int32) (QL : Int32 → sx_F → (Nat → Int64) → Prop) : Prop :=
  P_X6_oldMarks f x1 (fun r => ∀ o1 : Nat → Int64, o1 = vp_updL o 0 r.toInt64 → QL 0 f o1) (fun E => (E = "java/lang/IndexOutOfBoundsException" ∧ QL 1 f o))
def P_L_clashes (f : sx_F) (o : Nat → Int64) (x1 : Int32) (QL : Int32 → sx_F → (Nat → Int64) → Prop) : Prop :=
  P_X6_clashes f x1 (fun r => ∀ o1 : Nat → Int64, o1 = vp_updL o 0 r.toInt64 → QL 0 f o1) (fun E => (E = "java/lang/IndexOutOfBoundsException" ∧ QL 1 f o))
def P_case_bar (f g : sx_F) (o : Nat → Int64) (x1 : Int32) (K : sx_F → sx_F → Prop) : Prop :=
  P_L_bar f o x1 (fun k f1 o1 => P_X7_bar g x1 (fun b g1 => P_X7_thrown g1 (fun t => t = k ∧ (k = 0 → o1 0 = b.toInt64) ∧ K f1 g1)))
def P_case_note (f g : sx_F) (o : Nat → Int64) (x1 : Int32) (x2 : Int32) (x3 : Int32) (x4 : Int32) (K : sx_F → sx_F → Prop) : Prop :=
  P_L_note f o x1 x2 x3 x4 (fun k f1 o1 => P_X7_note g x1 x2 x3 x4 (fun b g1 => P_X7_thrown g1 (fun t => t = k ∧ (k = 0 → o1 0 = b.toInt64) ∧ K f1 g1)))
def P_case_mend (f g : sx_F) (o : Nat → Int64) (x1 : Int32) (x2 : Int32) (x3 : Int32) (x4 : Int32) (K : sx_F → sx_F → Prop) : Prop :=
  P_L_mend f o x1 x2 x3 x4 (fun k f1 o1 => P_X7_mend g x1 x2 x3 x4 (fun b g1 => P_X7_thrown g1 (fun t => t = k ∧ (k = 0 → o1 0 = b.toInt64) ∧ K f1 g1)))
def P_case_empty (f g : sx_F) (o : Nat → Int64) (x1 : Int32) (x2 : Int32) (K : sx_F → sx_F → Prop) : Prop :=
  P_L_empty f o x1 x2 (fun k f1 o1 => P_X7_empty g x1 x2 (fun b g1 => P_X7_thrown g1 (fun t => t = k ∧ (k = 0 → o1 0 = b.toInt64) ∧ K f1 g1)))
def P_case_setPaper (f g : sx_F) (o : Nat → Int64) (x1 : Int32) (x2 : Int32) (K : sx_F → sx_F → Prop) : Prop :=
  P_L_setPaper f o x1 x2 (fun k f1 o1 => P_X7_setPaper g x1 x2 (fun b g1 => P_X7_thrown g1 (fun t => t = k ∧ (k = 0 → o1 0 = b.toInt64) ∧ K f1 g1)))
def P_case_copy (f g : sx_F) (o : Nat → Int64) (x1 : Int32) (K : sx_F → sx_F → Prop) : Prop :=
  P_L_copy f o x1 (fun k f1 o1 => P_X7_copy g x1 (fun b g1 => P_X7_thrown g1 (fun t => t = k ∧ (k = 0 → o1 0 = b.toInt64) ∧ K f1 g1)))
def P_case_lend (f g : sx_F) (o : Nat → Int64) (x1 : Int32) (x2 : Int32) (K : sx_F → sx_F → Prop) : Prop :=
  P_L_lend f o x1 x2 (fun k f1 o1 => P_X7_lend g x1 x2 (fun b g1 => P_X7_thrown g1 (fun t => t = k ∧ (k = 0 → o1 0 = b.toInt64) ∧ K f1 g1)))
def P_case_giveBack (f g : sx_F) (o : Nat → Int64) (x1 : Int32) (K : sx_F → sx_F → Prop) : Prop :=
  P_L_giveBack f o x1 (fun k f1 o1 => P_X7_giveBack g x1 (fun b g1 => P_X7_thrown g1 (fun t => t = k ∧ (k = 0 → o1 0 = b.toInt64) ∧ K f1 g1)))
def P_case_paste (f g : sx_F) (o : Nat → Int64) (x1 : Int32) (K : sx_F → sx_F → Prop) : Prop :=
  P_L_paste f o x1 (fun k f1 o1 => P_X7_paste g x1 (fun b g1 => P_X7_thrown g1 (fun t => t = k ∧ (k = 0 → o1 0 = b.toInt64) ∧ K f1 g1)))
def P_case_mark (f g : sx_F) (o : Nat → Int64) (x1 : Int32) (x2 : Int32) (x3 : Int32) (K : sx_F → sx_F → Prop) : Prop :=
  P_L_mark f o x1 x2 x3 (fun k f1 o1 => P_X7_mark g x1 x2 x3 (fun b g1 => P_X7_thrown g1 (fun t => t = k ∧ (k = 0 → o1 0 = b.toInt64) ∧ K f1 g1)))
def P_case_bow (f g : sx_F) (o : Nat → Int64) (x1 : Int32) (x2 : Int32) (x3 : Int32) (x4 : Int32) (K : sx_F → sx_F → Prop) : Prop :=
  P_L_bow f o x1 x2 x3 x4 (fun k f1 o1 => P_X7_bow g x1 x2 x3 x4 (fun b g1 => P_X7_thrown g1 (fun t => t = k ∧ (k = 0 → o1 0 = b.toInt64) ∧ K f1 g1)))
def P_case_play (f g : sx_F) (o : Nat → Int64) (K : sx_F → sx_F → Prop) : Prop :=
  P_L_play f o (fun k f1 o1 => P_X7_play g (fun b g1 => P_X7_thrown g1 (fun t => t = k ∧ (k = 0 → o1 0 = b.toInt64) ∧ K f1 g1)))
def P_case_bars (f g : sx_F) (K : sx_F → sx_F → Prop) : Prop :=
  P_X6_bars f (fun r => P_X7_bars g (fun b g1 => r = b ∧ K f g1))
def P_case_notes (f g : sx_F) (o : Nat → Int64) (x1 : Int32) (x2 : Int32) (K : sx_F → sx_F → Prop) : Prop :=
  P_L_notes f o x1 x2 (fun k f1 o1 => P_X7_notes g x1 x2 (fun b g1 => P_X7_thrown g1 (fun t => t = k ∧ (k = 0 → o1 0 = b.toInt64) ∧ K f1 g1)))
def P_case_noteAt (f g : sx_F) (o : Nat → Int64) (x1 : Int32) (x2 : Int32) (x3 : Int32) (K : sx_F → sx_F → Prop) : Prop :=
  P_L_noteAt f o x1 x2 x3 (fun k f1 o1 => P_X7_noteAt g x1 x2 x3 (fun b g1 => P_X7_thrown g1 (fun t => t = k ∧ (k = 0 → o1 0 = b.toInt64) ∧ K f1 g1)))
def P_case_version (f g : sx_F) (o : Nat → Int64) (x1 : Int32) (x2 : Int32) (K : sx_F → sx_F → Prop) : Prop :=
  P_L_version f o x1 x2 (fun k f1 o1 => P_X7_version g x1 x2 (fun b g1 => P_X7_thrown g1 (fun t => t = k ∧ (k = 0 → o1 0 = b.toInt64) ∧ K f1 g1)))
def P_case_time (f g : sx_F) (o : Nat → Int64) (x1 : Int32) (K : sx_F → sx_F → Prop) : Prop :=
  P_L_time f o x1 (fun k f1 o1 => P_X7_time g x1 (fun b g1 => P_X7_thrown g1 (fun t => t = k ∧ (k = 0 → o1 0 = b.toInt64) ∧ K f1 g1)))
def P_case_timeByBars (f g : sx_F) (o : Nat → Int64) (x1 : Int32) (K : sx_F → sx_F → Prop) : Prop :=
  P_L_timeByBars f o x1 (fun k f1 o1 => P_X7_timeByBars g x1 (fun b g1 => P_X7_thrown g1 (fun t => t = k ∧ (k = 0 → o1 0 = b.toInt64) ∧ K f1 g1)))
def P_case_items (f g : sx_F) (o : Nat → Int64) (x1 : Int32) (K : sx_F → sx_F → Prop) : Prop :=
  P_L_items f o x1 (fun k f1 o1 => P_X7_items g x1 (fun b g1 => P_X7_thrown g1 (fun t => t = k ∧ (k = 0 → o1 0 = b.toInt64) ∧ K f1 g1)))
def P_case_itemOf (f g : sx_F) (o : Nat → Int64) (x1 : Int32) (x2 : Int32) (K : sx_F → sx_F → Prop) : Prop :=
  P_L_itemOf f o x1 x2 (fun k f1 o1 => P_X7_itemOf g x1 x2 (fun b g1 => P_X7_thrown g1 (fun t => t = k ∧ (k = 0 → o1 0 = b.toInt64) ∧ K f1 g1)))
def P_case_cue (f g : sx_F) (o : Nat → Int64) (x1 : Int32) (x2 : Int32) (K : sx_F → sx_F → Prop) : Prop :=
  P_L_cue f o x1 x2 (fun k f1 o1 => P_X7_cue g x1 x2 (fun b g1 => P_X7_thrown g1 (fun t => t = k ∧ (k = 0 → o1 0 = b.toInt64) ∧ K f1 g1)))
def P_case_width (f g : sx_F) (o : Nat → Int64) (x1 : Int32) (x2 : Int32) (K : sx_F → sx_F → Prop) : Prop :=
  P_L_width f o x1 x2 (fun k f1 o1 => P_X7_width g x1 x2 (fun b g1 => P_X7_thrown g1 (fun t => t = k ∧ (k = 0 → o1 0 = b.toInt64) ∧ K f1 g1)))
def P_case_lines (f g : sx_F) (o : Nat → Int64) (x1 : Int32) (K : sx_F → sx_F → Prop) : Prop :=
  P_L_lines f o x1 (fun k f1 o1 => P_X7_lines g x1 (fun b g1 => P_X7_thrown g1 (fun t => t = k ∧ (k = 0 → o1 0 = b.toInt64) ∧ K f1 g1)))
def P_case_lineOf (f g : sx_F) (o : Nat → Int64) (x1 : Int32) (x2 : Int32) (K : sx_F → sx_F → Prop) : Prop :=
  P_L_lineOf f o x1 x2 (fun k f1 o1 => P_X7_lineOf g x1 x2 (fun b g1 => P_X7_thrown g1 (fun t => t = k ∧ (k = 0 → o1 0 = b.toInt64) ∧ K f1 g1)))
def P_case_cost (f g : sx_F) (o : Nat → Int64) (x1 : Int32) (K : sx_F → sx_F → Prop) : Prop :=
  P_L_cost f o x1 (fun k f1 o1 => P_X7_cost g x1 (fun b g1 => P_X7_thrown g1 (fun t => t = k ∧ (k = 0 → o1 0 = b.toInt64) ∧ K f1 g1)))
def P_case_costByAll (f g : sx_F) (o : Nat → Int64) (x1 : Int32) (K : sx_F → sx_F → Prop) : Prop :=
  P_L_costByAll f o x1 (fun k f1 o1 => P_X7_costByAll g x1 (fun b g1 => P_X7_thrown g1 (fun t => t = k ∧ (k = 0 → o1 0 = b.toInt64) ∧ K f1 g1)))
def P_case_turns (f g : sx_F) (o : Nat → Int64) (x1 : Int32) (K : sx_F → sx_F → Prop) : Prop :=
  P_L_turns f o x1 (fun k f1 o1 => P_X7_turns g x1 (fun b g1 => P_X7_thrown g1 (fun t => t = k ∧ (k = 0 → o1 0 = b.toInt64) ∧ K f1 g1)))
def P_case_place (f g : sx_F) (o : Nat → Int64) (x1 : Int32) (x2 : Int32) (x3 : Int32) (K : sx_F → sx_F → Prop) : Prop :=
  P_L_place f o x1 x2 x3 (fun k f1 o1 => P_X7_place g x1 x2 x3 (fun b g1 => P_X7_thrown g1 (fun t => t = k ∧ (k = 0 → o1 0 = b.toInt64) ∧ K f1 g1)))
def P_case_copies (f g : sx_F) (K : sx_F → sx_F → Prop) : Prop :=
  P_X6_copies f (fun r => P_X7_copies g (fun b g1 => r = b ∧ K f g1))
def P_case_deskOf (f g : sx_F) (o : Nat → Int64) (x1 : Int32) (K : sx_F → sx_F → Prop) : Prop :=
  P_L_deskOf f o x1 (fun k f1 o1 => P_X7_deskOf g x1 (fun b g1 => P_X7_thrown g1 (fun t => t = k ∧ (k = 0 → o1 0 = b.toInt64) ∧ K f1 g1)))
def P_case_has (f g : sx_F) (o : Nat → Int64) (x1 : Int32) (x2 : Int32) (K : sx_F → sx_F → Prop) : Prop :=
  P_L_has f o x1 x2 (fun k f1 o1 => P_X7_has g x1 x2 (fun b g1 => P_X7_thrown g1 (fun t => t = k ∧ (k = 0 → o1 0 = b.toInt64) ∧ K f1 g1)))
def P_case_owed (f g : sx_F) (o : Nat → Int64) (x1 : Int32) (K : sx_F → sx_F → Prop) : Prop :=
  P_L_owed f o x1 (fun k f1 o1 => P_X7_owed g x1 (fun b g1 => P_X7_thrown g1 (fun t => t = k ∧ (k = 0 → o1 0 = b.toInt64) ∧ K f1 g1)))
def P_case_markOf (f g : sx_F) (o : Nat → Int64) (x1 : Int32) (x2 : Int32) (x3 : Int32) (K : sx_F → sx_F → Prop) : Prop :=
  P_L_markOf f o x1 x2 x3 (fun k f1 o1 => P_X7_markOf g x1 x2 x3 (fun b g1 => P_X7_thrown g1 (fun t => t = k ∧ (k = 0 → o1 0 = b.toInt64) ∧ K f1 g1)))
def P_case_oldMarks (f g : sx_F) (o : Nat → Int64) (x1 : Int32) (K : sx_F → sx_F → Prop) : Prop :=
  P_L_oldMarks f o x1 (fun k f1 o1 => P_X7_oldMarks g x1 (fun b g1 => P_X7_thrown g1 (fun t => t = k ∧ (k = 0 → o1 0 = b.toInt64) ∧ K f1 g1)))
def P_case_clashes (f g : sx_F) (o : Nat → Int64) (x1 : Int32) (K : sx_F → sx_F → Prop) : Prop :=
  P_L_clashes f o x1 (fun k f1 o1 => P_X7_clashes g x1 (fun b g1 => P_X7_thrown g1 (fun t => t = k ∧ (k = 0 → o1 0 = b.toInt64) ∧ K f1 g1)))
def P_case_concerts (f g : sx_F) (K : sx_F → sx_F → Prop) : Prop :=
  P_X6_concerts f (fun r => P_X7_concerts g (fun b g1 => r = b ∧ K f g1))
end
section
/-! PURE: the score as numbers. S 0 0 bars, S 1 k lengths, S 2 s counts, S 3 j note lengths, S 4 j pitches -/
abbrev z_S : Type := Nat → Nat → Nat
def z_fl (S : z_S) (s : Nat) : Nat → Nat | 0 => 0 | k + 1 => z_fl S s k + S 3 (8 * s + k)
def z_tm (S : z_S) : Nat → Nat | 0 => 0 | k + 1 => z_tm S k + S 1 k
def z_b (p : Bool) : Int32 := if p then 1 else 0
def z_sk (S : z_S) (s k : Nat) : Bool := decide (∀ j, j < k → S 4 (8 * s + j) = 0)
def z_sil (S : z_S) (s : Nat) : Bool := z_sk S s (S 2 s)
def z_X (f : sx_F) (S : z_S) : Prop := f 1 0 = nI (S 0 0) ∧ (∀ k, k < 12 → f 2 k = nI (S 1 k)) ∧ (∀ s, s < 60 → f 5 s = nI (S 2 s)) ∧ (∀ j, j < 480 → f 6 j = nI (S 3 j)) ∧ (∀ j, j < 480 → f 7 j = nI (S 4 j))
def z_M (g : sx_F) (S : z_S) : Prop := g 0 5 = nI (S 0 0) ∧ (∀ k, k < 12 → g 1 k = nI (S 1 k)) ∧ (∀ s, s < 60 → g 4 s = nI (S 2 s)) ∧ (∀ j, j < 480 → g 2 j = nI (S 3 j)) ∧ (∀ j, j < 480 → g 3 j = nI (S 4 j))
def z_W (S : z_S) : Prop := S 0 0 ≤ 12 ∧ (∀ k, k < S 0 0 → 1 ≤ S 1 k ∧ S 1 k ≤ 32) ∧ (∀ s, s < 60 → S 2 s ≤ 8) ∧ (∀ j, j < 480 → S 3 j ≤ 32 ∧ S 4 j ≤ 60) ∧ (∀ s k, s < 60 → k < S 2 s → 1 ≤ S 3 (8 * s + k)) ∧ (∀ i b, i < 5 → b < S 0 0 → z_fl S (12 * i + b) (S 2 (12 * i + b)) ≤ S 1 b) ∧ (∀ i b, i < 5 → b < 12 → S 0 0 ≤ b → S 2 (12 * i + b) = 0)
theorem z_Xc {f f' : sx_F} {S : z_S} (Z : z_X f S) (h1 : f' 1 = f 1) (h2 : f' 2 = f 2) (h5 : f' 5 = f 5) (h6 : f' 6 = f 6) (h7 : f' 7 = f 7) : z_X f' S := by
  unfold z_X
  rw [h1, h2, h5, h6, h7]
  exact Z
theorem z_Xu {f : sx_F} {S : z_S} {k j : Nat} {v : Int32} (Z : z_X f S) (h : 1 ≠ k ∧ 2 ≠ k ∧ 5 ≠ k ∧ 6 ≠ k ∧ 7 ≠ k) : z_X (sx_u f k j v) S :=
  z_Xc Z (sx_u_n h.1) (sx_u_n h.2.1) (sx_u_n h.2.2.1) (sx_u_n h.2.2.2.1) (sx_u_n h.2.2.2.2)
theorem z_l0 : (0 : Int32) = nI 0 := rfl
theorem z_l1 : (1 : Int32) = nI 1 := rfl
theorem z_l2 : (2 : Int32) = nI 2 := rfl
theorem z_l3 : (3 : Int32) = nI 3 := rfl
theorem z_l4 : (4 : Int32) = nI 4 := rfl
theorem z_l5 : (5 : Int32) = nI 5 := rfl
theorem z_l6 : (6 : Int32) = nI 6 := rfl
theorem z_l8 : (8 : Int32) = nI 8 := rfl
theorem z_l9 : (9 : Int32) = nI 9 := rfl
theorem z_l12 : (12 : Int32) = nI 12 := rfl
theorem z_l16 : (16 : Int32) = nI 16 := rfl
theorem z_l32 : (32 : Int32) = nI 32 := rfl
theorem z_l60 : (60 : Int32) = nI 60 := rfl
theorem z_vin {n N : Nat} (h : n < N) (hN : N < 2 ^ 31) : vp_in (nI n) N ↔ True := ⟨fun _ => trivial, fun _ => vp_in_nI h hN⟩
theorem z_slot (i b : Nat) : nI i * 12 + nI b = nI (12 * i + b) := by
  rw [z_l12, pk_mul, nI_add, Nat.mul_comm]
theorem z_cell (i b : Nat) : 12 * nI i + nI b = nI (12 * i + b) := by
  rw [z_l12, pk_mul, nI_add]
theorem z_at (s k : Nat) : nI s * 8 + nI k = nI (8 * s + k) := by
  rw [z_l8, pk_mul, nI_add, Nat.mul_comm]
theorem z_at' (s k : Nat) : 8 * nI s + nI k = nI (8 * s + k) := by
  rw [z_l8, pk_mul, nI_add]
/-- from the end of a count down to its beginning -/
theorem z_up {B : Nat → Prop} (N : Nat) (h : ∀ i, i ≤ N → (i < N → B (i + 1)) → B i) : B 0 := by
  have k : ∀ d i, i + d = N → B i := by
    intro d
    induction d with
    | zero => intro i hi; exact h i (by omega) (fun c => absurd c (by omega))
    | succ d ih => intro i hi; exact h i (by omega) (fun _ => ih (i + 1) (by omega))
  exact k N 0 (by omega)
theorem x_slotOf {f : sx_F} {i b : Nat} {Q : Int32 → Prop} (h : Q (nI (12 * i + b))) : P_X6_slotOf f (nI i) (nI b) Q := by
  unfold P_X6_slotOf
  rw [z_slot]
  exact h
theorem x_pitchAt {f : sx_F} {S : z_S} (Z : z_X f S) {s k : Nat} (hs : s < 60) (hk : k < 8) {Q : Int32 → Prop} (h : Q (nI (S 4 (8 * s + k)))) : P_X4_pitchAt f (nI s) (nI k) Q := by
  unfold P_X4_pitchAt
  rw [z_at, nI_clamp (by omega), Z.2.2.2.2 _ (by omega)]
  exact ⟨vp_in_nI (by omega) (by omega), h⟩
theorem x_lengthAt {f : sx_F} {S : z_S} (Z : z_X f S) {s k : Nat} (hs : s < 60) (hk : k < 8) {Q : Int32 → Prop} (h : Q (nI (S 3 (8 * s + k)))) : P_X4_lengthAt f (nI s) (nI k) Q := by
  unfold P_X4_lengthAt
  rw [z_at, nI_clamp (by omega), Z.2.2.2.1 _ (by omega)]
  exact ⟨vp_in_nI (by omega) (by omega), h⟩
theorem x_filled {f : sx_F} {S : z_S} (Z : z_X f S) (W : z_W S) {s : Nat} (hs : s < 60) {Q : Int32 → Prop} (h : Q (nI (z_fl S s (S 2 s)))) : P_X4_filled f (nI s) Q := by
  intro B hB
  have hc := W.2.2.1 s hs
  refine z_up (B := fun k => B (nI (z_fl S s k)) (nI k)) (S 2 s) (fun k hk ih => hB _ _ ⟨vp_in_nI (by omega) (by omega), ?_⟩)
  rw [nI_clamp (by omega), Z.2.2.1 s hs]
  refine pk_le (S 2 s) k (fun c => ?_) (fun c => x_lengthAt Z hs (by omega) (nm_e (nm_e ?_)))
  · have e : k = S 2 s := by omega
    rw [e]; exact h
  · rw [nI_add, nI_1]
    exact ih c
theorem x_isSilent {f : sx_F} {S : z_S} (Z : z_X f S) (W : z_W S) {i b : Nat} (hi : i < 5) (hb : b < 12) {Q : Int32 → Prop} (h : Q (z_b (z_sil S (12 * i + b)))) : P_X4_isSilent f (nI i) (nI b) Q := by
  intro B hB
  refine x_slotOf ?_
  have hs : 12 * i + b < 60 := by omega
  generalize 12 * i + b = s at hs h
  have hc := W.2.2.1 s hs
  have key : (∀ k, k < 0 → S 4 (8 * s + k) = 0) → B (nI s) (nI 0) := by
    refine z_up (B := fun k => (∀ j, j < k → S 4 (8 * s + j) = 0) → B (nI s) (nI k)) (S 2 s) (fun k hk ih => ?_)
    intro h0
    refine hB _ _ ⟨vp_in_nI (by omega) (by omega), ?_⟩
    rw [nI_clamp (by omega), Z.2.2.1 s hs]
    refine pk_le (S 2 s) k (fun c => ?_) (fun c => x_pitchAt Z hs (by omega) ?_)
    · have e : z_sil S s = true := decide_eq_true (fun j hj => h0 j (by omega))
      rw [e] at h; exact h
    · have hp := (W.2.2.2.1 (8 * s + k) (by omega)).2
      refine pk_le (S 4 (8 * s + k)) 0 (fun c1 => nm_e ?_) (fun c1 => ?_)
      · rw [nI_1]
        refine ih c (fun j hj => ?_)
        by_cases e : j = k
        · subst e; omega
        · exact h0 j (by omega)
      · have e : z_sil S s = false := decide_eq_false (fun z => by have := z k c; omega)
        rw [e] at h; exact h
  exact key (fun k hk => absurd hk (by omega))
theorem x_countTime {f : sx_F} {S : z_S} (Z : z_X f S) (W : z_W S) {b : Nat} (hb : b ≤ S 0 0) {Q : Int32 → Prop} (h : Q (nI (z_tm S b))) : P_X4_countTime f (nI b) Q := by
  intro B hB
  have hn := W.1
  refine z_up (B := fun k => B (nI (z_tm S k)) (nI k)) b (fun k hk ih => hB _ _ ?_)
  refine pk_le b k (fun c => ?_) (fun c => ⟨vp_in_nI (by omega) (by omega), nm_e (nm_e ?_)⟩)
  · have e : k = b := by omega
    rw [e]; exact h
  · rw [nI_clamp (by omega), Z.2.1 k (by omega), nI_add, nI_1]
    exact ih c
/-! what the class's calls ask of their arguments -/
theorem x_needIndex_f {f : sx_F} {x c : Int32} {Q : Prop} {X : String → Prop} (h : x < 0 ∨ c ≤ x) (hX : X "java/lang/IndexOutOfBoundsException") : P_X6_needIndex f x c Q X := by
  intro B hB
  refine ⟨fun _ => hB hX, fun c1 => ⟨fun c2 => ?_, fun _ => hB hX⟩⟩
  rcases h with h | h
  · exact absurd h c1
  · exact absurd c2 (Int32.not_lt.mpr h)
theorem x_needIndex_t {f : sx_F} {j n : Nat} {Q : Prop} {X : String → Prop} (h : j < n) (hn : n < 2 ^ 31) (hQ : Q) : P_X6_needIndex f (nI j) (nI n) Q X := by
  intro B hB
  exact ⟨fun c => absurd c (nI_pos (by omega)), fun _ => ⟨fun _ => hQ, fun c => absurd (nI_lt h hn) c⟩⟩
theorem x_needValue_f {f : sx_F} {x a c : Int32} {Q : Prop} {X : String → Prop} (h : x < a ∨ c < x) (hX : X "java/lang/IllegalArgumentException") : P_X6_needValue f x a c Q X := by
  intro B hB
  refine ⟨fun _ => hB hX, fun c1 => ⟨fun c2 => ?_, fun _ => hB hX⟩⟩
  rcases h with h | h
  · exact absurd h c1
  · exact absurd c2 (Int32.not_le.mpr h)
theorem x_needValue_t {f : sx_F} {x a c : Int32} {Q : Prop} {X : String → Prop} (h1 : ¬ x < a) (h2 : ¬ c < x) (hQ : Q) : P_X6_needValue f x a c Q X := by
  intro B hB
  exact ⟨fun c => absurd c h1, fun _ => ⟨fun _ => hQ, fun c => absurd (Int32.not_lt.mp h2) c⟩⟩
theorem x_needSlot_f {f : sx_F} {S : z_S} (Z : z_X f S) {x y : Int32} {Q : Int32 → Prop} {X : String → Prop} (h : (x < 0 ∨ 5 ≤ x) ∨ (y < 0 ∨ nI (S 0 0) ≤ y)) (hX : X "java/lang/IndexOutOfBoundsException") : P_X6_needSlot f x y Q X := by
  unfold P_X6_needSlot
  rcases pk_ix x (n := 5) (by omega) with h1 | h1 | ⟨j, hj, rfl⟩
  · exact x_needIndex_f (Or.inl h1) hX
  · exact x_needIndex_f (Or.inr h1) hX
  · refine x_needIndex_t (n := 5) hj (by omega) (x_needIndex_f ?_ hX)
    rcases h with h | h
    · rcases h with h | h
      · exact absurd h (nI_pos (by omega))
      · exact absurd h (nI_ge (a := j) (b := 5) hj (by omega))
    · rw [Z.1]; exact h
theorem x_needSlot_t {f : sx_F} {S : z_S} (Z : z_X f S) (W : z_W S) {i b : Nat} (hi : i < 5) (hb : b < S 0 0) {Q : Int32 → Prop} {X : String → Prop} (hQ : Q (nI (12 * i + b))) : P_X6_needSlot f (nI i) (nI b) Q X := by
  unfold P_X6_needSlot
  have := W.1
  refine x_needIndex_t (n := 5) hi (by omega) ?_
  rw [Z.1]
  exact x_needIndex_t hb (by omega) (x_slotOf hQ)
/-- an argument of an instrument and one of a bar: one is none, or both are -/
theorem z_pair (x y : Int32) {a n : Nat} (ha : a < 2 ^ 31) (hn : n < 2 ^ 31) : ((x < 0 ∨ nI a ≤ x) ∨ (y < 0 ∨ nI n ≤ y)) ∨ ∃ i b : Nat, i < a ∧ b < n ∧ x = nI i ∧ y = nI b := by
  rcases pk_ix x ha with h | h | ⟨i, hi, rfl⟩
  · exact Or.inl (Or.inl (Or.inl h))
  · exact Or.inl (Or.inl (Or.inr h))
  · rcases pk_ix y hn with h | h | ⟨b, hb, rfl⟩
    · exact Or.inl (Or.inr (Or.inl h))
    · exact Or.inl (Or.inr (Or.inr h))
    · exact Or.inr ⟨i, b, hi, hb, rfl, rfl⟩
/-! the reference's -/
theorem m_in_t {f : sx_F} {x a b : Int32} {Q : Int32 → Prop} (h1 : ¬ x < a) (h2 : ¬ b < x) (hQ : Q 1) : P_X7_in f x a b Q := ⟨fun c => absurd c h1, fun _ => ⟨fun c => absurd c h2, fun _ => hQ⟩⟩
theorem m_in_f {f : sx_F} {x a b : Int32} {Q : Int32 → Prop} (h : x < a ∨ b < x) (hQ : Q 0) : P_X7_in f x a b Q := ⟨fun _ => hQ, fun c1 => ⟨fun _ => hQ, fun c2 => absurd h (fun z => z.elim c1 c2)⟩⟩
/-- both at once: one value, and what it says -/
theorem m_in {f : sx_F} {x a b : Int32} {Q : Int32 → Prop} (h : Q (z_b (decide (¬ x < a ∧ ¬ b < x)))) : P_X7_in f x a b Q := by
  by_cases c1 : x < a
  · rw [decide_eq_false (fun z => z.1 c1)] at h
    exact m_in_f (Or.inl c1) h
  · by_cases c2 : b < x
    · rw [decide_eq_false (fun z => z.2 c2)] at h
      exact m_in_f (Or.inr c2) h
    · rw [decide_eq_true ⟨c1, c2⟩] at h
      exact m_in_t c1 c2 h
theorem m_goes_1 {f : sx_F} {y z : Int32} {Q : Int32 → sx_F → Prop} (hQ : Q 0 (sx_u f 0 33 1)) : P_X7_goes f 0 y z Q := by
  intro B hB
  refine ⟨fun _ => hB _ _ (nm_e ?_), fun c => absurd rfl c⟩
  rw [sx_u_s, pk_us]
  exact ⟨fun c => absurd c (by decide), fun _ => hQ⟩
theorem m_goes_2 {f : sx_F} {z : Int32} {Q : Int32 → sx_F → Prop} (hQ : Q 0 (sx_u f 0 33 2)) : P_X7_goes f 1 0 z Q := by
  intro B hB
  refine ⟨fun c => absurd c (by decide), fun _ => ⟨fun _ => hB _ _ (nm_e ?_), fun c => absurd rfl c⟩⟩
  rw [sx_u_s, pk_us]
  exact ⟨fun c => absurd c (by decide), fun _ => hQ⟩
theorem m_goes_3 {f : sx_F} {Q : Int32 → sx_F → Prop} (hQ : Q 0 (sx_u f 0 33 3)) : P_X7_goes f 1 1 0 Q := by
  intro B hB
  refine ⟨fun c => absurd c (by decide), fun _ => ⟨fun c => absurd c (by decide), fun _ => ⟨fun _ => hB _ _ (nm_e ?_), fun c => absurd rfl c⟩⟩⟩
  rw [sx_u_s, pk_us]
  exact ⟨fun c => absurd c (by decide), fun _ => hQ⟩
theorem m_goes_0 {f : sx_F} {Q : Int32 → sx_F → Prop} (hQ : Q 1 (sx_u f 0 33 0)) : P_X7_goes f 1 1 1 Q := by
  intro B hB
  refine ⟨fun c => absurd c (by decide), fun _ => ⟨fun c => absurd c (by decide), fun _ => ⟨fun c => absurd c (by decide), fun _ => hB _ _ (nm_e ?_)⟩⟩⟩
  rw [sx_u_s, pk_us]
  exact ⟨fun _ => hQ, fun c => absurd rfl c⟩
theorem z_b_cases (p : Bool) : z_b p = 0 ∨ z_b p = 1 := by cases p <;> simp [z_b]
theorem m_isInstrument {f : sx_F} {x : Int32} {Q : Int32 → Prop} (h : Q (z_b (decide (¬ x < 0 ∧ ¬ nI 5 ≤ x)))) : P_X7_isInstrument f x Q := by
  refine m_in ⟨z_b_cases _, ?_⟩
  have e : (¬ x < 0 ∧ ¬ (4 : Int32) < x) ↔ (¬ x < 0 ∧ ¬ nI 5 ≤ x) := by
    have : (4 : Int32) < x ↔ nI 5 ≤ x := by
      rw [Int32.lt_iff_toInt_lt, Int32.le_iff_toInt_le]
      exact Iff.rfl
    rw [this]
  rw [decide_eq_decide.mpr e]
  exact h
theorem m_isBook {f : sx_F} {x : Int32} {Q : Int32 → Prop} (h : Q (z_b (decide (¬ x < 0 ∧ ¬ nI 6 ≤ x)))) : P_X7_isBook f x Q := by
  refine m_in ⟨z_b_cases _, ?_⟩
  have e : (¬ x < 0 ∧ ¬ (5 : Int32) < x) ↔ (¬ x < 0 ∧ ¬ nI 6 ≤ x) := by
    have : (5 : Int32) < x ↔ nI 6 ≤ x := by
      rw [Int32.lt_iff_toInt_lt, Int32.le_iff_toInt_le]
      exact Iff.rfl
    rw [this]
  rw [decide_eq_decide.mpr e]
  exact h
theorem z_pred (x : Int32) {n : Nat} (hn : n < 2 ^ 30) : nI n - 1 < x ↔ nI n ≤ x := by
  rw [Int32.lt_iff_toInt_lt, Int32.le_iff_toInt_le, z_l1, pk_sub_toInt hn (by omega), nI_toInt (by omega)]
  omega
theorem m_isBar {f : sx_F} {n : Nat} (hn : f 0 5 = nI n) (hl : n < 2 ^ 30) {x : Int32} {Q : Int32 → Prop} (h : Q (z_b (decide (¬ x < 0 ∧ ¬ nI n ≤ x)))) : P_X7_isBar f x Q := by
  refine m_in ⟨z_b_cases _, ?_⟩
  rw [hn, decide_eq_decide.mpr (show (¬ x < 0 ∧ ¬ nI n - 1 < x) ↔ _ from by rw [z_pred x hl])]
  exact h
theorem m_isCopy {f : sx_F} {n : Nat} (hn : f 0 11 = nI n) (hl : n < 2 ^ 30) {x : Int32} {Q : Int32 → Prop} (h : Q (z_b (decide (¬ x < 0 ∧ ¬ nI n ≤ x)))) : P_X7_isCopy f x Q := by
  refine m_in ⟨z_b_cases _, ?_⟩
  rw [hn, decide_eq_decide.mpr (show (¬ x < 0 ∧ ¬ nI n - 1 < x) ↔ _ from by rw [z_pred x hl])]
  exact h
theorem z_no {x : Int32} {n : Nat} (h : x < 0 ∨ nI n ≤ x) : decide (¬ x < 0 ∧ ¬ nI n ≤ x) = false := decide_eq_false (fun z => h.elim z.1 z.2)
theorem z_yes {j n : Nat} (h : j < n) (hn : n < 2 ^ 31) : decide (¬ nI j < 0 ∧ ¬ nI n ≤ nI j) = true := decide_eq_true ⟨nI_pos (by omega), nI_ge h hn⟩
theorem m_cell {f : sx_F} {i b : Nat} {Q : Int32 → Prop} (h : Q (nI (12 * i + b))) : P_X7_cell f (nI i) (nI b) Q := by
  unfold P_X7_cell
  rw [z_cell]
  exact h
theorem m_filled {g : sx_F} {S : z_S} (Z : z_M g S) {s c : Nat} (hs : s < 60) (hc : c ≤ 8) {Q : Int32 → Prop} (h : Q (nI (z_fl S s c))) : P_X7_filled g (nI s) (nI c) Q := by
  intro B hB
  refine z_up (B := fun k => B (nI (z_fl S s k)) (nI k)) c (fun k hk ih => hB _ _ ?_)
  refine pk_le c k (fun e => ?_) (fun e => ?_)
  · have e : k = c := by omega
    rw [e]; exact h
  · rw [z_at', nI_clamp (by omega), Z.2.2.2.1 _ (by omega)]
    refine ⟨vp_in_nI (by omega) (by omega), nm_e (nm_e ?_)⟩
    rw [nI_add, nI_1]
    exact ih e
theorem m_isSilent {g : sx_F} {S : z_S} (Z : z_M g S) (W : z_W S) {i b : Nat} (hi : i < 5) (hb : b < 12) {Q : Int32 → Prop} (h : Q (z_b (z_sil S (12 * i + b)))) : P_X7_isSilent g (nI i) (nI b) Q := by
  intro B12 B48 B49 h12 h48 h49
  refine m_cell ?_
  have hs : 12 * i + b < 60 := by omega
  generalize 12 * i + b = s at hs h
  have hc := W.2.2.1 s hs
  have key : B12 (z_b (z_sk S s 0)) (nI s) (nI 0) := by
    refine z_up (B := fun k => B12 (z_b (z_sk S s k)) (nI s) (nI k)) (S 2 s) (fun k hk ih => h12 _ _ _ ⟨vp_in_nI (by omega) (by omega), ?_⟩)
    rw [nI_clamp (by omega), Z.2.2.1 s hs]
    refine pk_le (S 2 s) k (fun c => ?_) (fun c => ?_)
    · have e : k = S 2 s := by omega
      subst e
      exact ⟨z_b_cases _, h⟩
    · have i2 : B12 (z_b (z_sk S s (k + 1))) (nI s) (nI (k + 1)) := ih c
      unfold z_sk at i2 ⊢
      have hp := (W.2.2.2.1 (8 * s + k) (by omega)).2
      refine ⟨fun c1 => h48 _ _ (h49 _ _ _ (nm_e ?_)), fun c1 => ?_⟩
      · have d1 : ¬ ∀ j, j < k → S 4 (8 * s + j) = 0 := fun z => by
          rw [decide_eq_true z] at c1
          exact absurd c1 (by decide)
        rw [decide_eq_false (fun z => d1 (fun j hj => z j (by omega)))] at i2
        rw [nI_1]
        exact i2
      · have d1 : ∀ j, j < k → S 4 (8 * s + j) = 0 := by
          refine Decidable.byContradiction (fun z => ?_)
          rw [decide_eq_false z] at c1
          exact absurd rfl c1
        rw [z_at', nI_clamp (by omega), Z.2.2.2.2 _ (by omega)]
        refine ⟨vp_in_nI (by omega) (by omega), pk_eq (S 4 (8 * s + k)) 0 (fun c2 => h49 _ _ _ (nm_e ?_)) (fun c2 => h48 _ _ (h49 _ _ _ (nm_e ?_)))⟩
        · rw [decide_eq_true (fun j hj => by
            by_cases e : j = k
            · rw [e]; exact c2
            · exact d1 j (by omega))] at i2
          rw [nI_1]
          exact i2
        · rw [decide_eq_false (fun z => c2 (z k (by omega)))] at i2
          rw [nI_1]
          exact i2
  rw [show z_sk S s 0 = true from decide_eq_true (fun j hj => absurd hj (by omega))] at key
  exact key
end
section
def z_T (f : sx_F) (S : z_S) : Prop := ∀ k, k ≤ S 0 0 → f 3 k = nI (z_tm S k)
def z_V (t : Nat) (f g : sx_F) : Prop := ∀ s, s < 60 → f 4 s = g 5 s ∧ ∃ v, v ≤ t ∧ g 5 s = nI v
def z_P (f g : sx_F) : Prop := ∃ w q, 80 ≤ w ∧ w ≤ 500 ∧ 1 ≤ q ∧ q ≤ 6 ∧ f 19 1 = nI w ∧ g 0 6 = nI w ∧ f 19 2 = nI q ∧ g 0 7 = nI q ∧ f 11 0 = 0 ∧ f 12 0 = 0 ∧ f 17 0 = 0 ∧ f 18 0 = 0
def z_C1 (f g : sx_F) (i : Nat) : Prop := (∃ a, a < 5 ∧ f (66 + 2 * i) 1 = nI a ∧ g 6 i = nI a) ∧ f (66 + 2 * i) 2 = g 7 i ∧ (g 7 i = -1 ∨ ((∃ d, d < 6 ∧ g 7 i = nI d) ∧ ∀ k, k < 12 → f (66 + 2 * i + 1) k = g 8 (12 * i + k)))
def z_C (f g : sx_F) : Prop := ∃ m, m ≤ 16 ∧ f 0 5 = nI m ∧ g 0 11 = nI m ∧ (∀ i, i < m → z_C1 f g i) ∧ ∀ i, m ≤ i → i < 16 → f (66 + 2 * i) 2 = -1
def z_bit (x : Int32) (k : Nat) : Int32 := (x >>> ((2 * nI k) &&& 31)) &&& 3
def z_D1 (f g : sx_F) (d s : Nat) : Prop := (∃ a, a ≤ 9 ∧ f (99 + 5 * d + 1) s = nI a ∧ g 9 (60 * d + s) = nI a) ∧ f (99 + 5 * d + 2) s = g 10 (60 * d + s)
def z_D2 (t : Nat) (f g : sx_F) (d s : Nat) : Prop := ∃ e v, e ≤ v ∧ v ≤ t ∧ f (99 + 5 * d + 4) s = nI e ∧ g 5 s = nI v ∧ ∀ k, k < 8 → ∃ a c, a ≤ 2 ∧ c ≤ v ∧ g 11 (8 * (60 * d + s) + k) = nI a ∧ g 12 (8 * (60 * d + s) + k) = nI c ∧ (if e = v then z_bit (f (99 + 5 * d + 3) s) k else 0) = (if c = v then nI a else 0)
def z_D (t : Nat) (f g : sx_F) : Prop := ∀ d s, d < 6 → s < 60 → z_D1 f g d s ∧ z_D2 t f g d s
def z_R (t : Nat) (f g : sx_F) (S : z_S) : Prop := z_X f S ∧ z_M g S ∧ z_W S ∧ z_T f S ∧ z_V t f g ∧ z_P f g ∧ z_C f g ∧ f 0 6 = g 0 12 ∧ z_D t f g
def z_I (t : Nat) (f g : sx_F) : Prop := ∃ S, z_R t f g S
def z_fx (f f' : sx_F) : Prop := (∀ k, (k ≤ 7 ∨ 66 ≤ k) → f' k = f k) ∧ (∀ k j, (k = 19 ∧ (j = 1 ∨ j = 2)) ∨ (j = 0 ∧ (k = 11 ∨ k = 12 ∨ k = 17 ∨ k = 18)) → f' k j = f k j)
def z_gx (g g' : sx_F) : Prop := (∀ k, (1 ≤ k ∧ k ≤ 12) → g' k = g k) ∧ (∀ j, (j = 5 ∨ j = 6 ∨ j = 7 ∨ j = 11 ∨ j = 12) → g' 0 j = g 0 j)
theorem z_R.fx {t : Nat} {f g f' g' : sx_F} {S : z_S} (R : z_R t f g S) (hf : z_fx f f') (hg : z_gx g g') : z_R t f' g' S := by
  unfold z_R z_X z_M z_T z_V z_P z_C z_C1 z_D z_D1 z_D2 at R ⊢
  simp (disch := omega) only [hf.1, hf.2, hg.1, hg.2]
  exact R
theorem z_R.mono {t : Nat} {f g : sx_F} {S : z_S} (R : z_R t f g S) : z_R (t + 1) f g S := by
  refine ⟨R.1, R.2.1, R.2.2.1, R.2.2.2.1, fun s hs => ?_, R.2.2.2.2.2.1, R.2.2.2.2.2.2.1, R.2.2.2.2.2.2.2.1, fun d s hd hs => ?_⟩
  · obtain ⟨h1, v, hv, h2⟩ := R.2.2.2.2.1 s hs
    exact ⟨h1, v, by omega, h2⟩
  · obtain ⟨h1, e, v, he, hv, h2⟩ := R.2.2.2.2.2.2.2.2 d s hd hs
    exact ⟨h1, e, v, he, by omega, h2⟩
theorem z_fx.refl (f : sx_F) : z_fx f f := ⟨fun _ _ => rfl, fun _ _ _ => rfl⟩
theorem z_gx.refl (f : sx_F) : z_gx f f := ⟨fun _ _ => rfl, fun _ _ => rfl⟩
theorem z_gx.trans {f g h : sx_F} (a : z_gx f g) (b : z_gx g h) : z_gx f h := ⟨fun k hk => (b.1 k hk).trans (a.1 k hk), fun k hk => (b.2 k hk).trans (a.2 k hk)⟩
theorem z_fx.trans {f g h : sx_F} (a : z_fx f g) (b : z_fx g h) : z_fx f h := ⟨fun k hk => (b.1 k hk).trans (a.1 k hk), fun k j h => (b.2 k j h).trans (a.2 k j h)⟩
theorem z_gx.u {g g' : sx_F} {k j : Nat} {v : Int32} (h : z_gx g g') (hk : 13 ≤ k ∨ (k = 0 ∧ ¬ (j = 5 ∨ j = 6 ∨ j = 7 ∨ j = 11 ∨ j = 12))) : z_gx g (sx_u g' k j v) := by
  refine ⟨fun i hi => ?_, fun i hi => ?_⟩
  · rw [sx_u_n (by omega)]
    exact h.1 i hi
  · rcases hk with hk | ⟨rfl, hk⟩
    · rw [sx_u_n (by omega)]
      exact h.2 i hi
    · rw [sx_u_s, pk_un (by intro e; subst e; exact hk hi)]
      exact h.2 i hi
theorem z_fx.u {f f' : sx_F} {k j : Nat} {v : Int32} (h : z_fx f f') (hk : 8 ≤ k ∧ k ≤ 65 ∧ ¬ ((k = 19 ∧ (j = 1 ∨ j = 2)) ∨ (j = 0 ∧ (k = 11 ∨ k = 12 ∨ k = 17 ∨ k = 18)))) : z_fx f (sx_u f' k j v) := by
  refine ⟨fun i hi => ?_, fun i x hi => ?_⟩
  · rw [sx_u_n (by omega)]
    exact h.1 i hi
  · by_cases e : i = k
    · subst e
      rw [sx_u_s, pk_un (fun e => hk.2.2 (by subst e; exact hi))]
      exact h.2 i x hi
    · rw [sx_u_n e]
      exact h.2 i x hi
theorem z_gx.go (g : sx_F) (c : Int32) : z_gx g (sx_u g 0 33 c) := z_gx.u (z_gx.refl g) (Or.inr ⟨rfl, by decide⟩)
theorem z_I.same {t : Nat} {f g f' g' : sx_F} (h : z_I t f g) (hf : z_fx f f') (hg : z_gx g g') : z_I (t + 1) f' g' := by
  obtain ⟨S, R⟩ := h
  exact ⟨S, (R.fx hf hg).mono⟩
theorem z_I.go {t : Nat} {f g : sx_F} (h : z_I t f g) (c : Int32) : z_I (t + 1) f (sx_u g 0 33 c) := h.same (z_fx.refl f) (z_gx.go g c)
theorem z_M.gx {g g' : sx_F} {S : z_S} (h : z_M g S) (hg : z_gx g g') : z_M g' S := by
  unfold z_M at h ⊢
  simp (disch := omega) only [hg.1, hg.2]
  exact h
theorem z_X.fx {f f' : sx_F} {S : z_S} (h : z_X f S) (hf : z_fx f f') : z_X f' S := by
  unfold z_X at h ⊢
  simp (disch := omega) only [hf.1]
  exact h
theorem z_33 {g : sx_F} {c : Int32} : (sx_u g 0 33 c) 0 33 = c := by rw [sx_u_s, pk_us]
theorem z_finE {g1 : sx_F} {k b : Int32} {o1 : Nat → Int64} {K : Prop} (h33 : g1 0 33 = k) (hk : k ≠ 0) (hK : K) : P_X7_thrown g1 (fun t => t = k ∧ (k = 0 → o1 0 = b.toInt64) ∧ K) := ⟨h33, fun e => absurd e hk, hK⟩
theorem z_fin0 {g1 : sx_F} {r b : Int32} {o : Nat → Int64} {K : Prop} (h33 : g1 0 33 = 0) (hb : r = b) (hK : K) : P_X7_thrown g1 (fun t => t = 0 ∧ ((0 : Int32) = 0 → (vp_updL o 0 r.toInt64) 0 = b.toInt64) ∧ K) := ⟨h33, fun _ => by rw [pk_uLs, hb], hK⟩
def z_u (S : z_S) (k j v : Nat) : z_S := fun i x => if i = k ∧ x = j then v else S i x
theorem z_us {S : z_S} {k j v : Nat} : z_u S k j v k j = v := if_pos ⟨rfl, rfl⟩
theorem z_un {S : z_S} {k j v i x : Nat} (h : i ≠ k ∨ x ≠ j) : z_u S k j v i x = S i x := if_neg (fun z => h.elim (fun a => a z.1) (fun a => a z.2))
theorem z_fl_c {S S' : z_S} {s : Nat} : ∀ k, (∀ j, j < k → S' 3 (8 * s + j) = S 3 (8 * s + j)) → z_fl S' s k = z_fl S s k
  | 0, _ => rfl
  | k + 1, h => by
    unfold z_fl
    rw [z_fl_c k (fun j hj => h j (by omega)), h k (by omega)]
theorem z_tm_c {S S' : z_S} : ∀ k, (∀ j, j < k → S' 1 j = S 1 j) → z_tm S' k = z_tm S k
  | 0, _ => rfl
  | k + 1, h => by
    unfold z_tm
    rw [z_tm_c k (fun j hj => h j (by omega)), h k (by omega)]
/-- a change of the score leaves the copies and the desks -/
theorem z_C.sc {f g f' g' : sx_F} (h : z_C f g) (h1 : ∀ k, 66 ≤ k → f' k = f k) (h2 : f' 0 5 = f 0 5) (h3 : g' 0 11 = g 0 11) (h4 : g' 6 = g 6) (h5 : g' 7 = g 7) (h6 : g' 8 = g 8) : z_C f' g' := by
  unfold z_C z_C1 at h ⊢
  simp (disch := omega) only [h1, h2, h3, h4, h5, h6]
  exact h
theorem z_D.sc {t : Nat} {f g f' g' : sx_F} (h : z_D t f g) (h1 : ∀ k, 66 ≤ k → f' k = f k) (h3 : g' 5 = g 5) (h4 : g' 9 = g 9) (h5 : g' 10 = g 10) (h6 : g' 11 = g 11) (h7 : g' 12 = g 12) : z_D t f' g' := by
  unfold z_D z_D1 z_D2 at h ⊢
  simp (disch := omega) only [h1, h3, h4, h5, h6, h7]
  exact h
/-- one version more: no bowing of the bar counts any more -/
theorem z_D.ver {t : Nat} {f g f' g' : sx_F} {s0 : Nat} {x : Int32} (hs0 : s0 < 60) (ht : t < 1000000) (h : z_D t f g) (h1 : ∀ k, 66 ≤ k → f' k = f k) (h3 : g' 5 = upd (g 5) s0 (g 5 s0 + 1)) (h4 : g' 9 = g 9) (h5 : g' 10 = g 10) (h6 : g' 11 = g 11) (h7 : g' 12 = g 12) : z_D (t + 1) f' g' := by
  intro d s hd hs
  obtain ⟨a1, e, v, he, hv, b1, b2, b3⟩ := h d s hd hs
  refine ⟨?_, ?_⟩
  · unfold z_D1 at a1 ⊢
    simp (disch := omega) only [h1, h4, h5]
    exact a1
  · unfold z_D2
    simp (disch := omega) only [h1, h3, h6, h7]
    by_cases c : s = s0
    · subst c
      refine ⟨e, v + 1, by omega, by omega, b1, by rw [pk_us, b2, nI_1], fun k hk => ?_⟩
      obtain ⟨a, c, e1, e2, e3, e4, e5⟩ := b3 k hk
      exact ⟨a, c, e1, by omega, e3, e4, by rw [if_neg (by omega), if_neg (by omega)]⟩
    · exact ⟨e, v, he, by omega, b1, by rw [pk_un c]; exact b2, b3⟩
theorem z_V.ver {t : Nat} {f g f' g' : sx_F} {s0 : Nat} (hs0 : s0 < 60) (h : z_V t f g) (h1 : f' 4 = upd (f 4) s0 (f 4 s0 + 1)) (h3 : g' 5 = upd (g 5) s0 (g 5 s0 + 1)) : z_V (t + 1) f' g' := by
  intro s hs
  obtain ⟨a1, v, hv, a2⟩ := h s hs
  rw [h1, h3]
  by_cases c : s = s0
  · subst c
    rw [pk_us, pk_us, a1]
    exact ⟨rfl, v + 1, by omega, by rw [a2, nI_1]⟩
  · rw [pk_un c, pk_un c]
    exact ⟨a1, v, by omega, a2⟩
theorem z_fin0T {g1 : sx_F} {r b : Int32} {o : Nat → Int64} {K : Prop} (h33 : g1 0 33 = 0) (hb : r = b) (hK : K) : P_X7_thrown g1 (fun t => t = 0 ∧ (True → (vp_updL o 0 r.toInt64) 0 = b.toInt64) ∧ K) := ⟨h33, fun _ => by rw [pk_uLs, hb], hK⟩
theorem z_un1 {S : z_S} {k j v i x : Nat} (h : i ≠ k) : z_u S k j v i x = S i x := z_un (Or.inl h)
end
section
theorem k_bar {t : Nat} {f g : sx_F} {o : Nat → Int64} {x : Int32} (ht : t < 1000000) (h : z_I t f g) : P_case_bar f g o x (z_I (t + 1)) := by
  obtain ⟨S, R⟩ := h
  have hn := R.2.2.1.1
  unfold P_case_bar P_L_bar P_X6_bar
  by_cases c1 : x < 1 ∨ 32 < x
  · refine x_needValue_f c1 (Or.inl ⟨rfl, ?_⟩)
    intro B hB
    refine m_in_f c1 ?_
    have k : ∀ y, B g 0 y := fun y => hB _ _ _ (m_goes_1 ⟨fun _ => z_finE z_33 (by decide) (z_I.go ⟨S, R⟩ _), fun c => absurd rfl c⟩)
    exact ⟨fun _ => k 0, fun _ => k 1⟩
  · have h1 : ¬ x < 1 := fun c => c1 (Or.inl c)
    have h2 : ¬ 32 < x := fun c => c1 (Or.inr c)
    refine x_needValue_t h1 h2 ?_
    rw [R.1.1]
    refine pk_lt (S 0 0) 12 (fun c => ?_) (fun c => Or.inr ⟨rfl, ?_⟩)
    · obtain ⟨j, hj, rfl⟩ : ∃ j : Nat, j ≤ 32 ∧ x = nI j := nI_of2 (M := 32) rfl (fun z => h1 (Int32.lt_trans z (by decide))) (Int32.not_lt.mp h2)
      have hj1 : 1 ≤ j := Nat.le_of_not_lt (fun z => h1 (nI_lt (a := j) (b := 1) z (by omega)))
      have hfx := R.1
      have hM := R.2.1
      refine ⟨?_, nm_e ⟨?_, ?_, nm_e (nm_e (nm_e ?_))⟩⟩
      · rw [R.1.1]; exact vp_in_nI c (by omega)
      · simp (disch := decide) only [sx_u_n]; rw [R.1.1]; exact vp_in_nI (by omega) (by omega)
      · simp (disch := decide) only [sx_u_n]; rw [R.1.1, nI_1]; exact vp_in_nI (by omega) (by omega)
      simp (disch := decide) only [sx_u_n, sx_u_s, pk_us]
      intro B hB
      refine m_in_t h1 h2 ?_
      rw [R.2.1.1]
      refine pk_le 12 (S 0 0) (fun z => absurd z (by omega)) (fun _ => hB _ _ _ (m_goes_0 ⟨fun z => absurd z (by decide), fun _ => ?_⟩))
      have hg0 : (sx_u g 0 33 0) 0 5 = nI (S 0 0) := by rw [sx_u_s, pk_un (by decide)]; exact R.2.1.1
      have hg1 : sx_u g 0 33 0 1 = g 1 := sx_u_n (by decide)
      refine ⟨?_, nm_e (nm_e ?_)⟩
      · rw [hg0]; exact vp_in_nI c (by omega)
      refine z_fin0T (by rw [sx_u_s, pk_un (by decide), sx_u_n (by decide)]; exact z_33) (by rw [sx_u_s, pk_us, sx_u_n (by decide), hg0, R.1.1]) ?_
      rw [sx_u_n (by decide : (0 : Nat) ≠ 1), hg0, R.1.1, nI_1, nI_clamp (by omega), nI_clamp (by omega)]
      have tm := R.2.2.2.1 (S 0 0) (Nat.le_refl _)
      rw [tm, nI_add]
      refine ⟨z_u (z_u S 1 (S 0 0) j) 0 0 (S 0 0 + 1), ⟨?_, ?_, ?_, ?_, ?_⟩, ⟨?_, ?_, ?_, ?_, ?_⟩, ⟨?_, ?_, ?_, ?_, ?_, ?_, ?_⟩, ?_, ?_, ?_, ?_, ?_, ?_⟩
      · simp (disch := decide) only [sx_u_n, sx_u_s, pk_us, z_us]
      · intro k hk
        simp (disch := decide) only [sx_u_n, sx_u_s, z_un1]
        by_cases e : k = S 0 0
        · rw [e, pk_us, z_us]
        · rw [pk_un e, z_un (Or.inr e)]; exact R.1.2.1 k hk
      · intro k hk
        simp (disch := decide) only [sx_u_n, z_un1]
        exact R.1.2.2.1 k hk
      · intro k hk
        simp (disch := decide) only [sx_u_n, z_un1]
        exact R.1.2.2.2.1 k hk
      · intro k hk
        simp (disch := decide) only [sx_u_n, z_un1]
        exact R.1.2.2.2.2 k hk
      · simp (disch := decide) only [sx_u_n, sx_u_s, pk_us, z_us]
      · intro k hk
        simp (disch := decide) only [sx_u_n, sx_u_s, z_un1]
        by_cases e : k = S 0 0
        · rw [e, pk_us, z_us]
        · rw [pk_un e, z_un (Or.inr e)]; exact R.2.1.2.1 k hk
      · intro k hk
        simp (disch := decide) only [sx_u_n, z_un1]
        exact R.2.1.2.2.1 k hk
      · intro k hk
        simp (disch := decide) only [sx_u_n, z_un1]
        exact R.2.1.2.2.2.1 k hk
      · intro k hk
        simp (disch := decide) only [sx_u_n, z_un1]
        exact R.2.1.2.2.2.2 k hk
      · rw [z_us]; omega
      · intro k hk
        rw [z_us] at hk
        rw [z_un (Or.inl (by decide))]
        by_cases e : k = S 0 0
        · rw [e, z_us]; omega
        · rw [z_un (Or.inr e)]; exact R.2.2.1.2.1 k (by omega)
      · intro s hs
        rw [z_un (Or.inl (by decide)), z_un (Or.inl (by decide))]
        exact R.2.2.1.2.2.1 s hs
      · intro s hs
        rw [z_un (Or.inl (by decide)), z_un (Or.inl (by decide)), z_un (Or.inl (by decide)), z_un (Or.inl (by decide))]
        exact R.2.2.1.2.2.2.1 s hs
      · intro s k hs
        rw [z_un (Or.inl (by decide)), z_un (Or.inl (by decide)), z_un (Or.inl (by decide)), z_un (Or.inl (by decide))]
        exact R.2.2.1.2.2.2.2.1 s k hs
      · intro i b hi hb
        rw [z_us] at hb
        rw [z_fl_c (S := S) _ (fun k _ => by rw [z_un (Or.inl (by decide)), z_un (Or.inl (by decide))]), z_un (Or.inl (by decide)), z_un (Or.inl (by decide)), z_un (k := 0) (Or.inl (by decide))]
        by_cases e : b = S 0 0
        · rw [e, R.2.2.1.2.2.2.2.2.2 i (S 0 0) hi c (Nat.le_refl _)]
          exact Nat.zero_le _
        · rw [z_un (Or.inr e)]
          exact R.2.2.1.2.2.2.2.2.1 i b hi (by omega)
      · intro i b hi hb hb2
        rw [z_us] at hb2
        rw [z_un (Or.inl (by decide)), z_un (Or.inl (by decide))]
        exact R.2.2.1.2.2.2.2.2.2 i b hi hb (by omega)
      · intro k hk
        rw [z_us] at hk
        have e2 : ∀ i, i ≤ S 0 0 → z_tm (z_u (z_u S 1 (S 0 0) j) 0 0 (S 0 0 + 1)) i = z_tm S i := fun i hi => z_tm_c i (fun q hq => by rw [z_un1 (by decide), z_un (Or.inr (by omega))])
        simp (disch := decide) only [sx_u_n, sx_u_s]
        by_cases e : k = S 0 0 + 1
        · rw [e, pk_us]
          show _ = nI (z_tm (z_u (z_u S 1 (S 0 0) j) 0 0 (S 0 0 + 1)) (S 0 0) + z_u (z_u S 1 (S 0 0) j) 0 0 (S 0 0 + 1) 1 (S 0 0))
          rw [e2 _ (Nat.le_refl _), z_un1 (by decide), z_us]
        · rw [pk_un e, e2 k (by omega)]
          exact R.2.2.2.1 k (by omega)
      · intro s hs
        simp (disch := decide) only [sx_u_n]
        obtain ⟨a1, v, hv, a2⟩ := R.2.2.2.2.1 s hs
        exact ⟨a1, v, by omega, a2⟩
      · obtain ⟨w, q, a⟩ := R.2.2.2.2.2.1
        refine ⟨w, q, ?_⟩
        simp (disch := decide) only [sx_u_n, sx_u_s, pk_un]
        exact a
      · exact R.2.2.2.2.2.2.1.sc (fun k hk => by rw [sx_u_n (by omega), sx_u_n (by omega), sx_u_n (by omega)]) (by simp (disch := decide) only [sx_u_n]) (by simp (disch := decide) only [sx_u_n, sx_u_s, pk_un]) (by simp (disch := decide) only [sx_u_n]) (by simp (disch := decide) only [sx_u_n]) (by simp (disch := decide) only [sx_u_n])
      · simp (disch := decide) only [sx_u_n, sx_u_s, pk_un]
        exact R.2.2.2.2.2.2.2.1
      · exact R.mono.2.2.2.2.2.2.2.2.sc (fun k hk => by rw [sx_u_n (by omega), sx_u_n (by omega), sx_u_n (by omega)]) (by simp (disch := decide) only [sx_u_n]) (by simp (disch := decide) only [sx_u_n]) (by simp (disch := decide) only [sx_u_n]) (by simp (disch := decide) only [sx_u_n]) (by simp (disch := decide) only [sx_u_n])
    · intro B hB
      refine m_in_t h1 h2 ?_
      rw [R.2.1.1]
      exact pk_le 12 (S 0 0) (fun _ => hB _ _ _ (m_goes_2 ⟨fun _ => z_finE z_33 (by decide) (z_I.go ⟨S, R⟩ _), fun c => absurd rfl c⟩)) (fun z => absurd z (by omega))
end
section
/-- what a change of notes keeps -/
theorem z_R.sc {t : Nat} {f g f' g' : sx_F} {S S' : z_S} (ht : t < 1000000) (R : z_R t f g S) (X' : z_X f' S') (M' : z_M g' S') (W' : z_W S') (h0 : S' 0 0 = S 0 0) (h1 : ∀ k, S' 1 k = S 1 k) (hf : ∀ k, (k ≤ 3 ∨ 8 ≤ k) → f' k = f k) (hg : ∀ k, (6 ≤ k ∧ k ≤ 12) → g' k = g k) (hg0 : ∀ j, j ≠ 33 → g' 0 j = g 0 j) (d : Nat → Nat) (hv : ∀ s, s < 60 → d s ≤ 1 ∧ f' 4 s = f 4 s + nI (d s) ∧ g' 5 s = g 5 s + nI (d s)) : z_R (t + 1) f' g' S' := by
  refine ⟨X', M', W', fun k hk => ?_, fun s hs => ?_, ?_, ?_, ?_, fun q s hq hs => ⟨?_, ?_⟩⟩
  · rw [h0] at hk
    rw [hf 3 (by decide), z_tm_c (S := S) (S' := S') k (fun j _ => h1 j)]
    exact R.2.2.2.1 k hk
  · obtain ⟨d1, d2, d3⟩ := hv s hs
    obtain ⟨a1, v, hv, a2⟩ := R.2.2.2.2.1 s hs
    rw [d2, d3, a1]
    exact ⟨rfl, v + d s, by omega, by rw [a2, nI_add]⟩
  · obtain ⟨w, q, a⟩ := R.2.2.2.2.2.1
    refine ⟨w, q, ?_⟩
    rw [hf 19 (by decide), hg0 6 (by decide), hg0 7 (by decide), hf 11 (by decide), hf 12 (by decide), hf 17 (by decide), hf 18 (by decide)]
    exact a
  · exact R.2.2.2.2.2.2.1.sc (fun k hk => hf k (by omega)) (by rw [hf 0 (by decide)]) (hg0 11 (by decide)) (hg 6 (by decide)) (hg 7 (by decide)) (hg 8 (by decide))
  · rw [hf 0 (by decide), hg0 12 (by decide)]
    exact R.2.2.2.2.2.2.2.1
  · have a1 := (R.2.2.2.2.2.2.2.2 q s hq hs).1
    unfold z_D1 at a1 ⊢
    rw [hf _ (by omega), hf _ (by omega), hg 9 (by decide), hg 10 (by decide)]
    exact a1
  · obtain ⟨e, v, he, hve, b1, b2, b3⟩ := (R.2.2.2.2.2.2.2.2 q s hq hs).2
    obtain ⟨d1, d2, d3⟩ := hv s hs
    refine ⟨e, v + d s, by omega, by omega, by rw [hf _ (by omega)]; exact b1, by rw [d3, b2, nI_add], fun k hk => ?_⟩
    obtain ⟨a, c, e1, e2, e3, e4, e5⟩ := b3 k hk
    rw [hf _ (by omega), hg 11 (by decide), hg 12 (by decide)]
    refine ⟨a, c, e1, by omega, e3, e4, ?_⟩
    by_cases z : d s = 0
    · rw [z]
      exact e5
    · rw [if_neg (by omega), if_neg (by omega)]
theorem z_W.n12 {S : z_S} (W : z_W S) : S 0 0 ≤ 12 := W.1
theorem z_fl_le {S : z_S} (s : Nat) : ∀ {a b : Nat}, a ≤ b → z_fl S s a ≤ z_fl S s b := by
  intro a b h
  induction b with
  | zero => rw [show a = 0 by omega]; exact Nat.le_refl _
  | succ b ih =>
    by_cases e : a = b + 1
    · rw [e]; exact Nat.le_refl _
    · exact Nat.le_trans (ih (by omega)) (Nat.le_add_right _ _)
theorem z_W.note {S : z_S} {i b l p : Nat} (W : z_W S) (hi : i < 5) (hb : b < S 0 0) (hc : S 2 (12 * i + b) < 8) (hl : 1 ≤ l ∧ l ≤ 32) (hp : p ≤ 60) (hf : z_fl S (12 * i + b) (S 2 (12 * i + b)) + l ≤ S 1 b) : z_W (z_u (z_u (z_u S 3 (8 * (12 * i + b) + S 2 (12 * i + b)) l) 4 (8 * (12 * i + b) + S 2 (12 * i + b)) p) 2 (12 * i + b) (S 2 (12 * i + b) + 1)) := by
  have hn := W.1
  generalize hs : 12 * i + b = s at hc hf ⊢
  generalize hcc : S 2 s = c at hc hf ⊢
  generalize hT : z_u (z_u (z_u S 3 (8 * s + c) l) 4 (8 * s + c) p) 2 s (c + 1) = T
  have t0 : ∀ x, T 0 x = S 0 x := fun x => by rw [← hT, z_un1 (by decide), z_un1 (by decide), z_un1 (by decide)]
  have t1 : ∀ x, T 1 x = S 1 x := fun x => by rw [← hT, z_un1 (by decide), z_un1 (by decide), z_un1 (by decide)]
  have t2s : T 2 s = c + 1 := by rw [← hT, z_us]
  have t2 : ∀ x, x ≠ s → T 2 x = S 2 x := fun x hx => by rw [← hT, z_un (Or.inr hx), z_un1 (by decide), z_un1 (by decide)]
  have t3s : T 3 (8 * s + c) = l := by rw [← hT, z_un1 (by decide), z_un1 (by decide), z_us]
  have t3 : ∀ x, x ≠ 8 * s + c → T 3 x = S 3 x := fun x hx => by rw [← hT, z_un1 (by decide), z_un1 (by decide), z_un (Or.inr hx)]
  have t4s : T 4 (8 * s + c) = p := by rw [← hT, z_un1 (by decide), z_us]
  have t4 : ∀ x, x ≠ 8 * s + c → T 4 x = S 4 x := fun x hx => by rw [← hT, z_un1 (by decide), z_un (Or.inr hx), z_un1 (by decide)]
  refine ⟨by rw [t0]; exact hn, fun k hk => ?_, fun x hx => ?_, fun x hx => ?_, fun x k hx hk => ?_, fun i' b' hi' hb' => ?_, fun i' b' hi' hb' hb2 => ?_⟩
  · rw [t1]; rw [t0] at hk; exact W.2.1 k hk
  · by_cases e : x = s
    · rw [e, t2s]; omega
    · rw [t2 x e]; exact W.2.2.1 x hx
  · have a := W.2.2.2.1 x hx
    by_cases e : x = 8 * s + c
    · rw [e, t3s, t4s]; omega
    · rw [t3 x e, t4 x e]; exact a
  · by_cases e : x = s
    · rw [e, t2s] at hk
      rw [e]
      by_cases e2 : k = c
      · rw [e2, t3s]; exact hl.1
      · rw [t3 _ (by omega)]; exact W.2.2.2.2.1 s k (by omega) (by omega)
    · rw [t2 x e] at hk
      have := W.2.2.1 x hx
      rw [t3 _ (by omega)]; exact W.2.2.2.2.1 x k hx hk
  · rw [t0] at hb'
    rw [t1]
    by_cases e : 12 * i' + b' = s
    · have eb : b' = b := by omega
      rw [e, t2s, eb]
      show z_fl T s c + T 3 (8 * s + c) ≤ _
      rw [t3s, z_fl_c (S := S) (S' := T) c (fun j hj => t3 _ (by omega))]
      exact hf
    · rw [t2 _ e]
      have := W.2.2.1 (12 * i' + b') (by omega)
      rw [z_fl_c (S := S) (S' := T) _ (fun j hj => t3 _ (by omega))]
      exact W.2.2.2.2.2.1 i' b' hi' hb'
  · rw [t0] at hb2
    rw [t2 _ (by omega)]
    exact W.2.2.2.2.2.2 i' b' hi' hb' hb2
theorem x_addNote {f : sx_F} {S : z_S} (Z : z_X f S) {s : Nat} (hs : s < 60) (hc : S 2 s < 8) {x2 x3 : Int32} {Q : Int32 → sx_F → Prop} (h : Q (nI (S 2 s + 1)) (sx_u (sx_u (sx_u (sx_u f 6 (8 * s + S 2 s) x2) 7 (8 * s + S 2 s) x3) 5 s (nI (S 2 s + 1))) 4 s (f 4 s + 1))) : P_X4_addNote f (nI s) x2 x3 Q := by
  unfold P_X4_addNote
  refine ⟨vp_in_nI hs (by omega), ?_⟩
  rw [nI_clamp (by omega), Z.2.2.1 _ hs, z_at]
  refine nm_e ⟨vp_in_nI (by omega) (by omega), nm_e ⟨vp_in_nI (by omega) (by omega), nm_e ⟨vp_in_nI (by omega) (by omega), vp_in_nI (by omega) (by omega), nm_e ⟨vp_in_nI (by omega) (by omega), vp_in_nI (by omega) (by omega), nm_e ⟨vp_in_nI (by omega) (by omega), ?_⟩⟩⟩⟩⟩
  simp (disch := decide) only [sx_u_n, sx_u_s, pk_us]
  rw [Z.2.2.1 _ hs, nI_1, nI_clamp (by omega)]
  exact h
theorem k_note {t : Nat} {f g : sx_F} {o : Nat → Int64} {x1 x2 x3 x4 : Int32} (ht : t < 1000000) (h : z_I t f g) : P_case_note f g o x1 x2 x3 x4 (z_I (t + 1)) := by
  have hI := h
  obtain ⟨S, R⟩ := h
  have hn := R.2.2.1.1
  unfold P_case_note P_L_note P_X6_note
  rcases z_pair x1 x2 (a := 5) (n := S 0 0) (by omega) (by omega) with hbad | ⟨i, b, hi, hb, rfl, rfl⟩
  · refine x_needSlot_f R.1 hbad (Or.inl ⟨rfl, ?_⟩)
    intro B19 B20 B47 B48 B64 B116 B117 h19 h20 h47 h48 h64 h116 h117
    have e64 : ∀ y, B64 g 0 y 0 := fun y => h64 _ _ _ _ ⟨fun _ => h116 _ _ _ _ (h117 _ _ _ _ _ (m_goes_1 ⟨fun _ => z_finE z_33 (by decide) (hI.go _), fun c => absurd rfl c⟩)), fun c => absurd rfl c⟩
    have e48 : ∀ y, B48 g 0 y := fun y => h48 _ _ _ ⟨fun _ => e64 y, fun c => absurd rfl c⟩
    have e19 : B19 g := h19 _ (h20 _ _ (m_in (by
      rcases z_b_cases (decide (¬ x3 < 1 ∧ ¬ 32 < x3)) with e | e
      · rw [e]; exact ⟨fun _ => h47 _ _ (e48 0), fun c => absurd rfl c⟩
      · rw [e]
        refine ⟨fun c => absurd c (by decide), fun _ => m_in ?_⟩
        rcases z_b_cases (decide (¬ x4 < 0 ∧ ¬ 60 < x4)) with e | e
        · rw [e]; exact ⟨fun _ => h47 _ _ (e48 0), fun c => absurd rfl c⟩
        · rw [e]; exact ⟨fun c => absurd c (by decide), fun _ => e48 1⟩)))
    refine m_isInstrument ?_
    rcases z_b_cases (decide (¬ x1 < 0 ∧ ¬ nI 5 ≤ x1)) with e | e
    · rw [e]; exact ⟨fun _ => e19, fun c => absurd rfl c⟩
    · rw [e]
      refine ⟨fun c => absurd c (by decide), fun _ => m_isBar R.2.1.1 (by omega) ?_⟩
      rcases hbad with hbad | hbad
      · rw [z_no hbad] at e; exact absurd e (by decide)
      · rw [z_no hbad]; exact ⟨fun _ => e19, fun c => absurd rfl c⟩
  have hs : 12 * i + b < 60 := by omega
  have hc8 := R.2.2.1.2.2.1 _ hs
  refine x_needSlot_t R.1 R.2.2.1 hi hb ?_
  by_cases cf : (¬ x3 < 1 ∧ ¬ 32 < x3) ∧ (¬ x4 < 0 ∧ ¬ 60 < x4)
  · obtain ⟨l, hl, rfl⟩ : ∃ j : Nat, j ≤ 32 ∧ x3 = nI j := nI_of2 (M := 32) rfl (fun z => cf.1.1 (Int32.lt_trans z (by decide))) (Int32.not_lt.mp cf.1.2)
    have hl1 : 1 ≤ l := Nat.le_of_not_lt (fun z => cf.1.1 (nI_lt (a := l) (b := 1) z (by omega)))
    obtain ⟨p, hp, rfl⟩ : ∃ j : Nat, j ≤ 60 ∧ x4 = nI j := nI_of2 (M := 60) rfl cf.2.1 (Int32.not_lt.mp cf.2.2)
    refine x_needValue_t cf.1.1 cf.1.2 (x_needValue_t cf.2.1 cf.2.2 ⟨vp_in_nI (by omega) (by omega), ?_⟩)
    rw [nI_clamp (by omega), R.1.2.2.1 _ hs]
    -- what the reference does, in all three cases
    have ref : ∀ QQ : Int32 → sx_F → Prop, ((8 ≤ S 2 (12 * i + b) ∨ S 1 b < z_fl S (12 * i + b) (S 2 (12 * i + b)) + l) → QQ 0 (sx_u g 0 33 3)) → (S 2 (12 * i + b) < 8 → z_fl S (12 * i + b) (S 2 (12 * i + b)) + l ≤ S 1 b → QQ (nI (S 2 (12 * i + b) + 1)) (sx_u (sx_u (sx_u (sx_u (sx_u g 0 33 0) 2 (8 * (12 * i + b) + S 2 (12 * i + b)) (nI l)) 3 (8 * (12 * i + b) + S 2 (12 * i + b)) (nI p)) 4 (12 * i + b) (nI (S 2 (12 * i + b) + 1))) 5 (12 * i + b) (g 5 (12 * i + b) + 1))) → P_X7_note g (nI i) (nI b) (nI l) (nI p) QQ := by
      intro QQ q3 q0 B19 B20 B47 B48 B64 B116 B117 h19 h20 h47 h48 h64 h116 h117
      refine m_isInstrument ?_
      rw [z_yes hi (by omega)]
      refine ⟨fun c => absurd c (by decide), fun _ => m_isBar R.2.1.1 (by omega) ?_⟩
      rw [z_yes hb (by omega)]
      refine ⟨fun c => absurd c (by decide), fun _ => h20 _ _ (m_in_t cf.1.1 cf.1.2 ⟨fun c => absurd c (by decide), fun _ => m_in_t cf.2.1 cf.2.2 ⟨fun c => absurd c (by decide), fun _ => ?_⟩⟩)⟩
      refine h48 _ _ _ ⟨fun c => absurd c (by decide), fun _ => m_cell (h64 _ _ _ _ ⟨fun c => absurd c (by decide), fun _ => ⟨vp_in_nI (by omega) (by omega), ?_⟩⟩)⟩
      have no : (8 ≤ S 2 (12 * i + b) ∨ S 1 b < z_fl S (12 * i + b) (S 2 (12 * i + b)) + l) → B116 g 1 1 (nI (12 * i + b)) := fun z => h116 _ _ _ _ (h117 _ _ _ _ _ (m_goes_3 ⟨fun _ => q3 z, fun c => absurd rfl c⟩))
      rw [nI_clamp (by omega), R.2.1.2.2.1 _ hs]
      refine pk_le 8 (S 2 (12 * i + b)) (fun c => no (Or.inl c)) (fun c => ⟨fun c => absurd c (by decide), fun _ => ⟨vp_in_nI (by omega) (by omega), m_filled R.2.1 hs hc8 ⟨vp_in_nI (by omega) (by omega), ?_⟩⟩⟩)
      have hfl := R.2.2.1.2.2.2.2.2.1 i b hi hb
      have hlen := (R.2.2.1.2.1 b hb).2
      rw [nI_clamp (by omega), R.2.1.2.1 b (by omega), nI_add]
      refine pk_lt _ _ (fun c1 => no (Or.inr c1)) (fun c1 => h117 _ _ _ _ _ (m_goes_0 ⟨fun c => absurd c (by decide), fun _ => ⟨vp_in_nI (by omega) (by omega), ?_⟩⟩))
      have g4 : (sx_u g 0 33 0) 4 (12 * i + b) = nI (S 2 (12 * i + b)) := by rw [sx_u_n (by decide)]; exact R.2.1.2.2.1 _ hs
      simp (disch := decide) only [sx_u_n] at g4 ⊢
      rw [nI_clamp (n := 12 * i + b) (by omega), g4, z_at']
      refine ⟨vp_in_nI (by omega) (by omega), nm_e ⟨vp_in_nI (by omega) (by omega), ?_⟩⟩
      simp (disch := decide) only [sx_u_n]
      rw [g4, z_at']
      refine ⟨vp_in_nI (by omega) (by omega), nm_e ⟨vp_in_nI (by omega) (by omega), vp_in_nI (by omega) (by omega), nm_e ⟨vp_in_nI (by omega) (by omega), vp_in_nI (by omega) (by omega), nm_e ⟨vp_in_nI (by omega) (by omega), ?_⟩⟩⟩⟩
      simp (disch := decide) only [sx_u_n, sx_u_s, pk_us]
      rw [g4, nI_1, nI_clamp (n := 8 * (12 * i + b) + S 2 (12 * i + b)) (by omega)]
      exact q0 c c1
    refine pk_lt (S 2 (12 * i + b)) 8 (fun c => x_filled R.1 R.2.2.1 hs ⟨vp_in_nI (by omega) (by omega), ?_⟩) (fun c => Or.inr (Or.inr ⟨rfl, ?_⟩))
    · have hfl := R.2.2.1.2.2.2.2.2.1 i b hi hb
      have hlen := (R.2.2.1.2.1 b hb).2
      rw [nI_clamp (by omega), R.1.2.1 b (by omega), nI_add]
      refine pk_le _ _ (fun c1 => ?_) (fun c1 => Or.inr (Or.inr ⟨rfl, ?_⟩))
      · refine x_addNote R.1 hs c (nm_e (ref _ (fun z => absurd z (by omega)) (fun _ _ => ?_)))
        refine z_fin0 (by rw [sx_u_n (by decide), sx_u_n (by decide), sx_u_n (by decide), sx_u_n (by decide)]; exact z_33) rfl ⟨_, R.sc ht ?_ ?_ (R.2.2.1.note hi hb c ⟨hl1, hl⟩ hp c1) ?_ ?_ ?_ ?_ ?_ (fun s => if s = 12 * i + b then 1 else 0) ?_⟩
        · refine ⟨?_, fun k hk => ?_, fun k hk => ?_, fun k hk => ?_, fun k hk => ?_⟩
          · simp (disch := decide) only [sx_u_n, z_un1]; exact R.1.1
          · simp (disch := decide) only [sx_u_n, z_un1]; exact R.1.2.1 k hk
          · simp (disch := decide) only [sx_u_n, sx_u_s]
            by_cases e : k = 12 * i + b
            · rw [e, pk_us, z_us]
            · rw [pk_un e, z_un (Or.inr e)]; simp (disch := decide) only [z_un1]; exact R.1.2.2.1 k hk
          · simp (disch := decide) only [sx_u_n, sx_u_s, z_un1]
            by_cases e : k = 8 * (12 * i + b) + S 2 (12 * i + b)
            · rw [e, pk_us, z_us]
            · rw [pk_un e, z_un (Or.inr e)]; exact R.1.2.2.2.1 k hk
          · simp (disch := decide) only [sx_u_n, sx_u_s, z_un1]
            by_cases e : k = 8 * (12 * i + b) + S 2 (12 * i + b)
            · rw [e, pk_us, z_us]
            · rw [pk_un e, z_un (Or.inr e)]; simp (disch := decide) only [z_un1]; exact R.1.2.2.2.2 k hk
        · refine ⟨?_, fun k hk => ?_, fun k hk => ?_, fun k hk => ?_, fun k hk => ?_⟩
          · simp (disch := decide) only [sx_u_n, sx_u_s, pk_un, z_un1]; exact R.2.1.1
          · simp (disch := decide) only [sx_u_n, z_un1]; exact R.2.1.2.1 k hk
          · simp (disch := decide) only [sx_u_n, sx_u_s]
            by_cases e : k = 12 * i + b
            · rw [e, pk_us, z_us]
            · rw [pk_un e, z_un (Or.inr e)]; simp (disch := decide) only [z_un1]; exact R.2.1.2.2.1 k hk
          · simp (disch := decide) only [sx_u_n, sx_u_s, z_un1]
            by_cases e : k = 8 * (12 * i + b) + S 2 (12 * i + b)
            · rw [e, pk_us, z_us]
            · rw [pk_un e, z_un (Or.inr e)]; exact R.2.1.2.2.2.1 k hk
          · simp (disch := decide) only [sx_u_n, sx_u_s, z_un1]
            by_cases e : k = 8 * (12 * i + b) + S 2 (12 * i + b)
            · rw [e, pk_us, z_us]
            · rw [pk_un e, z_un (Or.inr e)]; simp (disch := decide) only [z_un1]; exact R.2.1.2.2.2.2 k hk
        · simp (disch := decide) only [z_un1]
        · intro k; simp (disch := decide) only [z_un1]
        · intro k hk; rw [sx_u_n (by omega), sx_u_n (by omega), sx_u_n (by omega), sx_u_n (by omega)]
        · intro k hk; rw [sx_u_n (by omega), sx_u_n (by omega), sx_u_n (by omega), sx_u_n (by omega), sx_u_n (by omega)]
        · intro j hj; simp (disch := decide) only [sx_u_n, sx_u_s]; rw [pk_un hj]
        · intro s hs
          simp (disch := decide) only [sx_u_n, sx_u_s]
          by_cases e : s = 12 * i + b
          · rw [e, if_pos rfl, pk_us, pk_us]; exact ⟨Nat.le_refl _, rfl, rfl⟩
          · rw [if_neg e, pk_un e, pk_un e]; exact ⟨by omega, (Int32.add_zero _).symm, (Int32.add_zero _).symm⟩
      · exact ref _ (fun _ => z_finE z_33 (by decide) (hI.go _)) (fun z1 z2 => absurd c1 (by omega))
    · exact ref _ (fun _ => z_finE z_33 (by decide) (hI.go _)) (fun z => absurd z (by omega))
  · have ref : ∀ QQ : Int32 → sx_F → Prop, QQ 0 (sx_u g 0 33 2) → P_X7_note g (nI i) (nI b) x3 x4 QQ := by
      intro QQ q2 B19 B20 B47 B48 B64 B116 B117 h19 h20 h47 h48 h64 h116 h117
      have e116 : B116 g 1 0 (nI (12 * i + b)) := h116 _ _ _ _ (h117 _ _ _ _ _ (m_goes_2 ⟨fun _ => q2, fun c => absurd rfl c⟩))
      have e64 : B64 g 1 0 (nI (12 * i + b)) := h64 _ _ _ _ ⟨fun c => absurd c (by decide), fun _ => ⟨vp_in_nI (by omega) (by omega), ⟨fun _ => e116, fun _ => ⟨fun _ => e116, fun c => absurd rfl c⟩⟩⟩⟩
      have e48 : B48 g 1 0 := h48 _ _ _ ⟨fun c => absurd c (by decide), fun _ => m_cell e64⟩
      refine m_isInstrument ?_
      rw [z_yes hi (by omega)]
      refine ⟨fun c => absurd c (by decide), fun _ => m_isBar R.2.1.1 (by omega) ?_⟩
      rw [z_yes hb (by omega)]
      refine ⟨fun c => absurd c (by decide), fun _ => h20 _ _ ?_⟩
      by_cases c1 : x3 < 1 ∨ 32 < x3
      · exact m_in_f c1 ⟨fun _ => h47 _ _ e48, fun c => absurd rfl c⟩
      · have c2 : x4 < 0 ∨ 60 < x4 := Decidable.byContradiction (fun z => cf ⟨⟨fun a => c1 (Or.inl a), fun a => c1 (Or.inr a)⟩, ⟨fun a => z (Or.inl a), fun a => z (Or.inr a)⟩⟩)
        exact m_in_t (fun a => c1 (Or.inl a)) (fun a => c1 (Or.inr a)) ⟨fun c => absurd c (by decide), fun _ => m_in_f c2 ⟨fun _ => h47 _ _ e48, fun c => absurd rfl c⟩⟩
    by_cases c1 : x3 < 1 ∨ 32 < x3
    · exact x_needValue_f c1 (Or.inr (Or.inl ⟨rfl, ref _ (z_finE z_33 (by decide) (hI.go _))⟩))
    · have c2 : x4 < 0 ∨ 60 < x4 := Decidable.byContradiction (fun z => cf ⟨⟨fun a => c1 (Or.inl a), fun a => c1 (Or.inr a)⟩, ⟨fun a => z (Or.inl a), fun a => z (Or.inr a)⟩⟩)
      exact x_needValue_t (fun a => c1 (Or.inl a)) (fun a => c1 (Or.inr a)) (x_needValue_f c2 (Or.inr (Or.inl ⟨rfl, ref _ (z_finE z_33 (by decide) (hI.go _))⟩)))
end
section
theorem m_isNote_f {g : sx_F} {S : z_S} (M : z_M g S) (W : z_W S) {x1 x2 x3 : Int32} {Q : Int32 → Prop} (h : ((x1 < 0 ∨ nI 5 ≤ x1) ∨ (x2 < 0 ∨ nI (S 0 0) ≤ x2)) ∨ ∃ i b : Nat, i < 5 ∧ b < S 0 0 ∧ x1 = nI i ∧ x2 = nI b ∧ (x3 < 0 ∨ nI (S 2 (12 * i + b)) ≤ x3)) (hQ : Q 0) : P_X7_isNote g x1 x2 x3 Q := by
  have hn := W.1
  unfold P_X7_isNote
  rcases h with hbad | ⟨i, b, hi, hb, rfl, rfl, h3⟩
  · refine m_isInstrument ?_
    rcases z_b_cases (decide (¬ x1 < 0 ∧ ¬ nI 5 ≤ x1)) with e | e
    · rw [e]; exact ⟨fun _ => hQ, fun c => absurd rfl c⟩
    · rw [e]
      refine ⟨fun c => absurd c (by decide), fun _ => m_isBar M.1 (by omega) ?_⟩
      rcases hbad with hbad | hbad
      · rw [z_no hbad] at e; exact absurd e (by decide)
      · rw [z_no hbad]; exact ⟨fun _ => hQ, fun c => absurd rfl c⟩
  · have hs : 12 * i + b < 60 := by omega
    have hc8 := W.2.2.1 _ hs
    refine m_isInstrument ?_
    rw [z_yes hi (by omega)]
    refine ⟨fun c => absurd c (by decide), fun _ => m_isBar M.1 (by omega) ?_⟩
    rw [z_yes hb (by omega)]
    refine ⟨fun c => absurd c (by decide), fun _ => m_cell ⟨vp_in_nI (by omega) (by omega), ?_⟩⟩
    rw [nI_clamp (by omega), M.2.2.1 _ hs]
    refine m_in_f ?_ ⟨fun _ => hQ, fun c => absurd rfl c⟩
    rw [z_pred x3 (by omega)]
    exact h3
theorem m_isNote_t {g : sx_F} {S : z_S} (M : z_M g S) (W : z_W S) {i b k : Nat} {Q : Int32 → Prop} (hi : i < 5) (hb : b < S 0 0) (hk : k < S 2 (12 * i + b)) (hQ : Q 1) : P_X7_isNote g (nI i) (nI b) (nI k) Q := by
  have hn := W.1
  unfold P_X7_isNote
  have hs : 12 * i + b < 60 := by omega
  have hc8 := W.2.2.1 _ hs
  refine m_isInstrument ?_
  rw [z_yes hi (by omega)]
  refine ⟨fun c => absurd c (by decide), fun _ => m_isBar M.1 (by omega) ?_⟩
  rw [z_yes hb (by omega)]
  refine ⟨fun c => absurd c (by decide), fun _ => m_cell ⟨vp_in_nI (by omega) (by omega), ?_⟩⟩
  rw [nI_clamp (by omega), M.2.2.1 _ hs]
  refine m_in_t (nI_pos (by omega)) ?_ ⟨fun c => absurd c (by decide), fun _ => hQ⟩
  rw [z_pred (nI k) (by omega)]
  exact nI_ge hk (by omega)
theorem z_W.mend {S : z_S} {j p : Nat} (W : z_W S) (hp : p ≤ 60) : z_W (z_u S 4 j p) := by
  have t (i x : Nat) (h : i ≠ 4) : z_u S 4 j p i x = S i x := z_un1 h
  refine ⟨by rw [t 0 0 (by decide)]; exact W.1, fun k hk => ?_, fun x hx => ?_, fun x hx => ?_, fun x k hx hk => ?_, fun i b hi hb => ?_, fun i b hi hb hb2 => ?_⟩
  · rw [t 1 k (by decide)]; rw [t 0 0 (by decide)] at hk; exact W.2.1 k hk
  · rw [t 2 x (by decide)]; exact W.2.2.1 x hx
  · rw [t 3 x (by decide)]
    refine ⟨(W.2.2.2.1 x hx).1, ?_⟩
    by_cases e : x = j
    · rw [e, z_us]; exact hp
    · rw [z_un (Or.inr e)]; exact (W.2.2.2.1 x hx).2
  · rw [t 3 _ (by decide)]; rw [t 2 _ (by decide)] at hk; exact W.2.2.2.2.1 x k hx hk
  · rw [t 0 0 (by decide)] at hb
    rw [t 1 _ (by decide), t 2 _ (by decide), z_fl_c (S := S) (S' := z_u S 4 j p) _ (fun q _ => t 3 _ (by decide))]
    exact W.2.2.2.2.2.1 i b hi hb
  · rw [t 0 0 (by decide)] at hb2
    rw [t 2 _ (by decide)]; exact W.2.2.2.2.2.2 i b hi hb hb2
theorem z_W.empty {S : z_S} {s : Nat} (W : z_W S) : z_W (z_u S 2 s 0) := by
  have t (i x : Nat) (h : i ≠ 2) : z_u S 2 s 0 i x = S i x := z_un1 h
  have t2 (x : Nat) : z_u S 2 s 0 2 x ≤ S 2 x := by
    by_cases e : x = s
    · rw [e, z_us]; exact Nat.zero_le _
    · rw [z_un (Or.inr e)]; exact Nat.le_refl _
  refine ⟨by rw [t 0 0 (by decide)]; exact W.1, fun k hk => ?_, fun x hx => ?_, fun x hx => ?_, fun x k hx hk => ?_, fun i b hi hb => ?_, fun i b hi hb hb2 => ?_⟩
  · rw [t 1 k (by decide)]; rw [t 0 0 (by decide)] at hk; exact W.2.1 k hk
  · exact Nat.le_trans (t2 x) (W.2.2.1 x hx)
  · rw [t 3 x (by decide), t 4 x (by decide)]; exact W.2.2.2.1 x hx
  · rw [t 3 _ (by decide)]; exact W.2.2.2.2.1 x k hx (Nat.lt_of_lt_of_le hk (t2 x))
  · rw [t 0 0 (by decide)] at hb
    rw [t 1 _ (by decide), z_fl_c (S := S) (S' := z_u S 2 s 0) _ (fun q _ => t 3 _ (by decide))]
    exact Nat.le_trans (z_fl_le _ (t2 _)) (W.2.2.2.2.2.1 i b hi hb)
  · rw [t 0 0 (by decide)] at hb2
    have := W.2.2.2.2.2.2 i b hi hb hb2
    have := t2 (12 * i + b)
    omega
theorem k_mend {t : Nat} {f g : sx_F} {o : Nat → Int64} {x1 x2 x3 x4 : Int32} (ht : t < 1000000) (h : z_I t f g) : P_case_mend f g o x1 x2 x3 x4 (z_I (t + 1)) := by
  have hI := h
  obtain ⟨S, R⟩ := h
  have hn := R.2.2.1.1
  unfold P_case_mend P_L_mend P_X6_mend
  have bad : ∀ QQ : Int32 → sx_F → Prop, ((((x1 < 0 ∨ nI 5 ≤ x1) ∨ (x2 < 0 ∨ nI (S 0 0) ≤ x2)) ∨ ∃ i b : Nat, i < 5 ∧ b < S 0 0 ∧ x1 = nI i ∧ x2 = nI b ∧ (x3 < 0 ∨ nI (S 2 (12 * i + b)) ≤ x3))) → QQ 0 (sx_u g 0 33 1) → P_X7_mend g x1 x2 x3 x4 QQ := by
    intro QQ hb q B hB
    refine m_isNote_f R.2.1 R.2.2.1 hb (m_in (m_goes_1 ⟨fun _ => q, fun c => absurd rfl c⟩))
  rcases z_pair x1 x2 (a := 5) (n := S 0 0) (by omega) (by omega) with hbad | ⟨i, b, hi, hb, rfl, rfl⟩
  · exact x_needSlot_f R.1 hbad (Or.inl ⟨rfl, bad _ (Or.inl hbad) (z_finE z_33 (by decide) (hI.go _))⟩)
  have hs : 12 * i + b < 60 := by omega
  have hc8 := R.2.2.1.2.2.1 _ hs
  refine x_needSlot_t R.1 R.2.2.1 hi hb ⟨vp_in_nI (by omega) (by omega), ?_⟩
  rw [nI_clamp (by omega), R.1.2.2.1 _ hs]
  rcases pk_ix x3 (n := S 2 (12 * i + b)) (by omega) with h3 | h3 | ⟨k, hk, rfl⟩
  · exact x_needIndex_f (Or.inl h3) (Or.inl ⟨rfl, bad _ (Or.inr ⟨i, b, hi, hb, rfl, rfl, Or.inl h3⟩) (z_finE z_33 (by decide) (hI.go _))⟩)
  · exact x_needIndex_f (Or.inr h3) (Or.inl ⟨rfl, bad _ (Or.inr ⟨i, b, hi, hb, rfl, rfl, Or.inr h3⟩) (z_finE z_33 (by decide) (hI.go _))⟩)
  refine x_needIndex_t hk (by omega) ?_
  by_cases c4 : x4 < 0 ∨ 60 < x4
  · refine x_needValue_f c4 (Or.inr ⟨rfl, ?_⟩)
    intro B hB
    exact m_isNote_t R.2.1 R.2.2.1 hi hb hk (m_in_f c4 (m_goes_2 ⟨fun _ => z_finE z_33 (by decide) (hI.go _), fun c => absurd rfl c⟩))
  have h1 : ¬ x4 < 0 := fun c => c4 (Or.inl c)
  have h2 : ¬ 60 < x4 := fun c => c4 (Or.inr c)
  obtain ⟨p, hp, rfl⟩ : ∃ j : Nat, j ≤ 60 ∧ x4 = nI j := nI_of2 (M := 60) rfl h1 (Int32.not_lt.mp h2)
  refine x_needValue_t h1 h2 ?_
  unfold P_X4_changePitch
  rw [z_at]
  refine nm_e ⟨vp_in_nI (by omega) (by omega), ?_⟩
  rw [nI_clamp (by omega), R.1.2.2.2.2 _ (by omega)]
  have hp60 := (R.2.2.1.2.2.2.1 (8 * (12 * i + b) + k) (by omega)).2
  have ref : ∀ QQ : Int32 → sx_F → Prop, QQ (nI (S 4 (8 * (12 * i + b) + k))) (sx_u (sx_u (sx_u g 0 33 0) 3 (8 * (12 * i + b) + k) (nI p)) 5 (12 * i + b) (g 5 (12 * i + b) + nI (if S 4 (8 * (12 * i + b) + k) = p then 0 else 1))) → P_X7_mend g (nI i) (nI b) (nI k) (nI p) QQ := by
    intro QQ q B hB
    refine m_isNote_t R.2.1 R.2.2.1 hi hb hk (m_in_t h1 h2 (m_goes_0 ⟨fun c => absurd c (by decide), fun _ => m_cell ?_⟩))
    rw [z_at', nI_clamp (n := 8 * (12 * i + b) + k) (by omega)]
    simp (disch := decide) only [sx_u_n]
    rw [R.2.1.2.2.2.2 _ (by omega)]
    refine ⟨vp_in_nI (by omega) (by omega), nm_e ⟨vp_in_nI (by omega) (by omega), nm_e ⟨vp_in_nI (by omega) (by omega), ?_⟩⟩⟩
    rw [nI_clamp (by omega)]
    simp (disch := decide) only [sx_u_n]
    refine pk_eq _ _ (fun c => hB _ _ _ _ _ ⟨vp_in_nI (by omega) (by omega), nm_e ?_⟩) (fun c => hB _ _ _ _ _ ⟨vp_in_nI (by omega) (by omega), nm_e ?_⟩)
    · rw [if_pos c] at q
      rw [nI_clamp (by omega)]
      exact q
    · rw [if_neg c] at q
      rw [nI_clamp (by omega)]
      exact q
  have X' : ∀ f' : sx_F, f' 1 = f 1 → f' 2 = f 2 → f' 5 = f 5 → f' 6 = f 6 → f' 7 = upd (f 7) (8 * (12 * i + b) + k) (nI p) → z_X f' (z_u S 4 (8 * (12 * i + b) + k) p) := by
    intro f' e1 e2 e5 e6 e7
    refine ⟨?_, fun k hk => ?_, fun k hk => ?_, fun k hk => ?_, fun q hq => ?_⟩
    · rw [e1, z_un1 (by decide)]; exact R.1.1
    · rw [e2, z_un1 (by decide)]; exact R.1.2.1 k hk
    · rw [e5, z_un1 (by decide)]; exact R.1.2.2.1 k hk
    · rw [e6, z_un1 (by decide)]; exact R.1.2.2.2.1 k hk
    · rw [e7]
      by_cases e : q = 8 * (12 * i + b) + k
      · rw [e, pk_us, z_us]
      · rw [pk_un e, z_un (Or.inr e)]; exact R.1.2.2.2.2 q hq
  have M' : ∀ x y, z_M (sx_u (sx_u (sx_u g 0 33 0) 3 (8 * (12 * i + b) + k) (nI p)) 5 x y) (z_u S 4 (8 * (12 * i + b) + k) p) := by
    intro x y
    refine ⟨?_, fun k hk => ?_, fun k hk => ?_, fun k hk => ?_, fun q hq => ?_⟩
    · simp (disch := decide) only [sx_u_n, sx_u_s, pk_un, z_un1]; exact R.2.1.1
    · simp (disch := decide) only [sx_u_n, z_un1]; exact R.2.1.2.1 k hk
    · simp (disch := decide) only [sx_u_n, z_un1]; exact R.2.1.2.2.1 k hk
    · simp (disch := decide) only [sx_u_n, z_un1]; exact R.2.1.2.2.2.1 k hk
    · simp (disch := decide) only [sx_u_n, sx_u_s]
      by_cases e : q = 8 * (12 * i + b) + k
      · rw [e, pk_us, z_us]
      · rw [pk_un e, z_un (Or.inr e)]; exact R.2.1.2.2.2.2 q hq
  refine nm_e (pk_eq _ _ (fun c => nm_e (ref _ ?_)) (fun c => ⟨vp_in_nI (by omega) (by omega), nm_e ⟨vp_in_nI (by omega) (by omega), vp_in_nI (by omega) (by omega), nm_e (nm_e (ref _ ?_))⟩⟩))
  · refine z_fin0 (by rw [sx_u_n (by decide), sx_u_n (by decide)]; exact z_33) rfl ⟨_, R.sc ht (X' f rfl rfl rfl rfl ?_) (M' _ _) (R.2.2.1.mend hp) (z_un1 (by decide)) (fun _ => z_un1 (by decide)) (fun _ _ => rfl) ?_ ?_ (fun _ => 0) ?_⟩
    · funext q
      by_cases e : q = 8 * (12 * i + b) + k
      · rw [e, pk_us, R.1.2.2.2.2 _ (by omega), c]
      · rw [pk_un e]
    · intro k hk; rw [sx_u_n (by omega), sx_u_n (by omega), sx_u_n (by omega)]
    · intro j hj; simp (disch := decide) only [sx_u_n, sx_u_s]; rw [pk_un hj]
    · intro s hs
      refine ⟨Nat.zero_le _, (Int32.add_zero _).symm, ?_⟩
      rw [sx_u_s, if_pos c]
      by_cases e : s = 12 * i + b
      · rw [e, pk_us]
      · rw [pk_un e, sx_u_n (by decide), sx_u_n (by decide)]; exact (Int32.add_zero _).symm
  · rw [nI_clamp (n := 12 * i + b) (by omega)]
    refine z_fin0 (by rw [sx_u_n (by decide), sx_u_n (by decide)]; exact z_33) rfl ⟨_, R.sc ht (X' _ ?_ ?_ ?_ ?_ ?_) (M' _ _) (R.2.2.1.mend hp) (z_un1 (by decide)) (fun _ => z_un1 (by decide)) ?_ ?_ ?_ (fun s => if s = 12 * i + b then 1 else 0) ?_⟩
    · rw [sx_u_n (by decide), sx_u_n (by decide)]
    · rw [sx_u_n (by decide), sx_u_n (by decide)]
    · rw [sx_u_n (by decide), sx_u_n (by decide)]
    · rw [sx_u_n (by decide), sx_u_n (by decide)]
    · rw [sx_u_n (by decide), sx_u_s]
    · intro k hk; rw [sx_u_n (by omega), sx_u_n (by omega)]
    · intro k hk; rw [sx_u_n (by omega), sx_u_n (by omega), sx_u_n (by omega)]
    · intro j hj; simp (disch := decide) only [sx_u_n, sx_u_s]; rw [pk_un hj]
    · intro s hs
      rw [sx_u_s, sx_u_s, if_neg c, sx_u_n (by decide), sx_u_n (by decide), sx_u_n (by decide)]
      by_cases e : s = 12 * i + b
      · rw [e, if_pos rfl, pk_us, pk_us]; exact ⟨Nat.le_refl _, rfl, rfl⟩
      · rw [if_neg e, pk_un e, pk_un e]; exact ⟨by omega, (Int32.add_zero _).symm, (Int32.add_zero _).symm⟩
theorem m_pair_f {g : sx_F} {S : z_S} (M : z_M g S) (W : z_W S) {x1 x2 : Int32} {A B : Prop} (h : (x1 < 0 ∨ nI 5 ≤ x1) ∨ (x2 < 0 ∨ nI (S 0 0) ≤ x2)) (hA : A) : P_X7_isInstrument g x1 (fun r => ((r = 0 → A) ∧ (¬ r = 0 → (P_X7_isBar g x2 (fun r => ((r = 0 → A) ∧ (¬ r = 0 → B))))))) := by
  have hn := W.1
  refine m_isInstrument ?_
  rcases z_b_cases (decide (¬ x1 < 0 ∧ ¬ nI 5 ≤ x1)) with e | e
  · rw [e]; exact ⟨fun _ => hA, fun c => absurd rfl c⟩
  · rw [e]
    refine ⟨fun c => absurd c (by decide), fun _ => m_isBar M.1 (by omega) ?_⟩
    rcases h with hbad | hbad
    · rw [z_no hbad] at e; exact absurd e (by decide)
    · rw [z_no hbad]; exact ⟨fun _ => hA, fun c => absurd rfl c⟩
theorem m_pair_t {g : sx_F} {S : z_S} (M : z_M g S) (W : z_W S) {i b : Nat} {A B : Prop} (hi : i < 5) (hb : b < S 0 0) (hB : B) : P_X7_isInstrument g (nI i) (fun r => ((r = 0 → A) ∧ (¬ r = 0 → (P_X7_isBar g (nI b) (fun r => ((r = 0 → A) ∧ (¬ r = 0 → B))))))) := by
  have hn := W.1
  refine m_isInstrument ?_
  rw [z_yes hi (by omega)]
  refine ⟨fun c => absurd c (by decide), fun _ => m_isBar M.1 (by omega) ?_⟩
  rw [z_yes hb (by omega)]
  exact ⟨fun c => absurd c (by decide), fun _ => hB⟩
theorem k_empty {t : Nat} {f g : sx_F} {o : Nat → Int64} {x1 x2 : Int32} (ht : t < 1000000) (h : z_I t f g) : P_case_empty f g o x1 x2 (z_I (t + 1)) := by
  have hI := h
  obtain ⟨S, R⟩ := h
  have hn := R.2.2.1.1
  unfold P_case_empty P_L_empty P_X6_empty
  rcases z_pair x1 x2 (a := 5) (n := S 0 0) (by omega) (by omega) with hbad | ⟨i, b, hi, hb, rfl, rfl⟩
  · refine x_needSlot_f R.1 hbad ⟨rfl, ?_⟩
    intro B20 B21 B69 h20 h21 h69
    exact m_pair_f R.2.1 R.2.2.1 hbad (h20 _ (h21 _ _ (m_goes_1 ⟨fun _ => z_finE z_33 (by decide) (hI.go _), fun c => absurd rfl c⟩)))
  have hs : 12 * i + b < 60 := by omega
  have hc8 := R.2.2.1.2.2.1 _ hs
  refine x_needSlot_t R.1 R.2.2.1 hi hb ?_
  have ref : ∀ QQ : Int32 → sx_F → Prop, QQ (nI (S 2 (12 * i + b))) (sx_u (sx_u (sx_u g 0 33 0) 4 (12 * i + b) 0) 5 (12 * i + b) (g 5 (12 * i + b) + nI (if S 2 (12 * i + b) = 0 then 0 else 1))) → P_X7_empty g (nI i) (nI b) QQ := by
    intro QQ q B20 B21 B69 h20 h21 h69
    refine m_pair_t R.2.1 R.2.2.1 hi hb (h21 _ _ (m_goes_0 ⟨fun c => absurd c (by decide), fun _ => m_cell ⟨vp_in_nI (by omega) (by omega), ?_⟩⟩))
    rw [nI_clamp (n := 12 * i + b) (by omega)]
    simp (disch := decide) only [sx_u_n]
    rw [R.2.1.2.2.1 _ hs]
    refine nm_e ⟨vp_in_nI (by omega) (by omega), nm_e ⟨vp_in_nI (by omega) (by omega), ?_⟩⟩
    simp (disch := decide) only [sx_u_n]
    refine pk_eq _ 0 (fun c => h69 _ _ _ _ _ ⟨vp_in_nI (by omega) (by omega), nm_e ?_⟩) (fun c => h69 _ _ _ _ _ ⟨vp_in_nI (by omega) (by omega), nm_e ?_⟩)
    · rw [if_pos c] at q
      rw [nI_clamp (by omega)]
      exact q
    · rw [if_neg c] at q
      rw [nI_clamp (by omega)]
      exact q
  have X' : ∀ f' : sx_F, f' 1 = f 1 → f' 2 = f 2 → f' 5 = upd (f 5) (12 * i + b) 0 → f' 6 = f 6 → f' 7 = f 7 → z_X f' (z_u S 2 (12 * i + b) 0) := by
    intro f' e1 e2 e5 e6 e7
    refine ⟨?_, fun k hk => ?_, fun q hq => ?_, fun k hk => ?_, fun k hk => ?_⟩
    · rw [e1, z_un1 (by decide)]; exact R.1.1
    · rw [e2, z_un1 (by decide)]; exact R.1.2.1 k hk
    · rw [e5]
      by_cases e : q = 12 * i + b
      · rw [e, pk_us, z_us]; rfl
      · rw [pk_un e, z_un (Or.inr e)]; exact R.1.2.2.1 q hq
    · rw [e6, z_un1 (by decide)]; exact R.1.2.2.2.1 k hk
    · rw [e7, z_un1 (by decide)]; exact R.1.2.2.2.2 k hk
  have M' : ∀ x y, z_M (sx_u (sx_u (sx_u g 0 33 0) 4 (12 * i + b) 0) 5 x y) (z_u S 2 (12 * i + b) 0) := by
    intro x y
    refine ⟨?_, fun k hk => ?_, fun q hq => ?_, fun k hk => ?_, fun k hk => ?_⟩
    · simp (disch := decide) only [sx_u_n, sx_u_s, pk_un, z_un1]; exact R.2.1.1
    · simp (disch := decide) only [sx_u_n, z_un1]; exact R.2.1.2.1 k hk
    · simp (disch := decide) only [sx_u_n, sx_u_s]
      by_cases e : q = 12 * i + b
      · rw [e, pk_us, z_us]; rfl
      · rw [pk_un e, z_un (Or.inr e)]; exact R.2.1.2.2.1 q hq
    · simp (disch := decide) only [sx_u_n, z_un1]; exact R.2.1.2.2.2.1 k hk
    · simp (disch := decide) only [sx_u_n, z_un1]; exact R.2.1.2.2.2.2 k hk
  unfold P_X4_takeNotes
  rw [nI_clamp (n := 12 * i + b) (by omega), R.1.2.2.1 _ hs]
  refine ⟨vp_in_nI (by omega) (by omega), nm_e (pk_le _ 0 (fun c => nm_e (ref _ ?_)) (fun c => ⟨vp_in_nI (by omega) (by omega), nm_e ⟨vp_in_nI (by omega) (by omega), vp_in_nI (by omega) (by omega), nm_e (nm_e (ref _ ?_))⟩⟩))⟩
  · have c0 : S 2 (12 * i + b) = 0 := by omega
    refine z_fin0 (by rw [sx_u_n (by decide), sx_u_n (by decide)]; exact z_33) rfl ⟨_, R.sc ht (X' f rfl rfl ?_ rfl rfl) (M' _ _) R.2.2.1.empty (z_un1 (by decide)) (fun _ => z_un1 (by decide)) (fun _ _ => rfl) ?_ ?_ (fun _ => 0) ?_⟩
    · funext q
      by_cases e : q = 12 * i + b
      · rw [e, pk_us, R.1.2.2.1 _ hs, c0]; rfl
      · rw [pk_un e]
    · intro k hk; rw [sx_u_n (by omega), sx_u_n (by omega), sx_u_n (by omega)]
    · intro j hj; simp (disch := decide) only [sx_u_n, sx_u_s]; rw [pk_un hj]
    · intro s hs
      refine ⟨Nat.zero_le _, (Int32.add_zero _).symm, ?_⟩
      rw [sx_u_s, if_pos c0]
      by_cases e : s = 12 * i + b
      · rw [e, pk_us]
      · rw [pk_un e, sx_u_n (by decide), sx_u_n (by decide)]; exact (Int32.add_zero _).symm
  · have c0 : ¬ S 2 (12 * i + b) = 0 := by omega
    refine z_fin0 (by rw [sx_u_n (by decide), sx_u_n (by decide)]; exact z_33) rfl ⟨_, R.sc ht (X' _ ?_ ?_ ?_ ?_ ?_) (M' _ _) R.2.2.1.empty (z_un1 (by decide)) (fun _ => z_un1 (by decide)) ?_ ?_ ?_ (fun s => if s = 12 * i + b then 1 else 0) ?_⟩
    · rw [sx_u_n (by decide), sx_u_n (by decide)]
    · rw [sx_u_n (by decide), sx_u_n (by decide)]
    · rw [sx_u_n (by decide), sx_u_s]
    · rw [sx_u_n (by decide), sx_u_n (by decide)]
    · rw [sx_u_n (by decide), sx_u_n (by decide)]
    · intro k hk; rw [sx_u_n (by omega), sx_u_n (by omega)]
    · intro k hk; rw [sx_u_n (by omega), sx_u_n (by omega), sx_u_n (by omega)]
    · intro j hj; simp (disch := decide) only [sx_u_n, sx_u_s]; rw [pk_un hj]
    · intro s hs
      rw [sx_u_s, sx_u_s, if_neg c0, sx_u_n (by decide), sx_u_n (by decide), sx_u_n (by decide)]
      by_cases e : s = 12 * i + b
      · rw [e, if_pos rfl, pk_us, pk_us]; exact ⟨Nat.le_refl _, rfl, rfl⟩
      · rw [if_neg e, pk_un e, pk_un e]; exact ⟨by omega, (Int32.add_zero _).symm, (Int32.add_zero _).symm⟩
theorem k_setPaper {t : Nat} {f g : sx_F} {o : Nat → Int64} {x1 x2 : Int32} (h : z_I t f g) : P_case_setPaper f g o x1 x2 (z_I (t + 1)) := by
  have hI := h
  obtain ⟨S, R⟩ := h
  obtain ⟨w, q, p1, p2, p3, p4, p5, p6, p7, p8, p9⟩ := R.2.2.2.2.2.1
  unfold P_case_setPaper P_L_setPaper P_X6_setPaper
  by_cases c1 : x1 < 80 ∨ 500 < x1
  · refine x_needValue_f c1 ⟨rfl, ?_⟩
    intro B27 B28 h27 h28
    exact m_in_f c1 ⟨fun _ => h27 _ (h28 _ _ (m_goes_1 ⟨fun _ => z_finE z_33 (by decide) (hI.go _), fun c => absurd rfl c⟩)), fun c => absurd rfl c⟩
  have a1 : ¬ x1 < 80 := fun c => c1 (Or.inl c)
  have a2 : ¬ 500 < x1 := fun c => c1 (Or.inr c)
  refine x_needValue_t a1 a2 ?_
  by_cases c2 : x2 < 1 ∨ 6 < x2
  · refine x_needValue_f c2 ⟨rfl, ?_⟩
    intro B27 B28 h27 h28
    exact m_in_t a1 a2 ⟨fun c => absurd c (by decide), fun _ => m_in_f c2 ⟨fun _ => h27 _ (h28 _ _ (m_goes_1 ⟨fun _ => z_finE z_33 (by decide) (hI.go _), fun c => absurd rfl c⟩)), fun c => absurd rfl c⟩⟩
  have b1 : ¬ x2 < 1 := fun c => c2 (Or.inl c)
  have b2 : ¬ 6 < x2 := fun c => c2 (Or.inr c)
  refine x_needValue_t b1 b2 ?_
  obtain ⟨w', hw', rfl⟩ : ∃ j : Nat, j ≤ 500 ∧ x1 = nI j := nI_of2 (M := 500) rfl (fun z => a1 (Int32.lt_trans z (by decide))) (Int32.not_lt.mp a2)
  have hw1 : 80 ≤ w' := Nat.le_of_not_lt (fun z => a1 (nI_lt (a := w') (b := 80) z (by omega)))
  obtain ⟨q', hq', rfl⟩ : ∃ j : Nat, j ≤ 6 ∧ x2 = nI j := nI_of2 (M := 6) rfl (fun z => b1 (Int32.lt_trans z (by decide))) (Int32.not_lt.mp b2)
  have hq1 : 1 ≤ q' := Nat.le_of_not_lt (fun z => b1 (nI_lt (a := q') (b := 1) z (by omega)))
  refine nm_e (nm_e (nm_e (nm_e ?_)))
  intro B27 B28 h27 h28
  refine m_in_t a1 a2 ⟨fun c => absurd c (by decide), fun _ => m_in_t b1 b2 ⟨fun c => absurd c (by decide), fun _ => h28 _ _ (m_goes_0 ⟨fun c => absurd c (by decide), fun _ => nm_e (nm_e (nm_e ?_))⟩)⟩⟩
  rw [p5, sx_u_s, pk_un (by decide), p6]
  refine z_fin0 (by rw [sx_u_s, pk_un (by decide), sx_u_s, pk_un (by decide)]; exact z_33) rfl ⟨S, ?_⟩
  obtain ⟨R1, R2, R3, R4, R5, R6, R7, R8, R9⟩ := R.mono
  refine ⟨z_Xc R1 ?_ ?_ ?_ ?_ ?_, ?_, R3, ?_, ?_, ⟨w', q', hw1, hw', hq1, hq', ?_, ?_, ?_, ?_, ?_⟩, R7.sc ?_ ?_ ?_ ?_ ?_ ?_, ?_, R9.sc ?_ ?_ ?_ ?_ ?_ ?_⟩
  · rw [sx_u_n (by decide), sx_u_n (by decide)]
  · rw [sx_u_n (by decide), sx_u_n (by decide)]
  · rw [sx_u_n (by decide), sx_u_n (by decide)]
  · rw [sx_u_n (by decide), sx_u_n (by decide)]
  · rw [sx_u_n (by decide), sx_u_n (by decide)]
  · unfold z_M
    simp (disch := decide) only [sx_u_n, sx_u_s, pk_un]
    exact R2
  · unfold z_T
    simp (disch := decide) only [sx_u_n]
    exact R4
  · unfold z_V
    simp (disch := decide) only [sx_u_n]
    exact R5
  · simp (disch := decide) only [sx_u_s, pk_un, pk_us]
  · simp (disch := decide) only [sx_u_s, pk_un, pk_us]
  · simp (disch := decide) only [sx_u_s, pk_un, pk_us]
  · simp (disch := decide) only [sx_u_s, pk_un, pk_us]
  · simp (disch := decide) only [sx_u_n]; exact p9
  · intro k hk; rw [sx_u_n (by omega), sx_u_n (by omega)]
  · simp (disch := decide) only [sx_u_n]
  · simp (disch := decide) only [sx_u_s, pk_un]
  · simp (disch := decide) only [sx_u_n]
  · simp (disch := decide) only [sx_u_n]
  · simp (disch := decide) only [sx_u_n]
  · simp (disch := decide) only [sx_u_n, sx_u_s, pk_un]
    exact R8
  · intro k hk; rw [sx_u_n (by omega), sx_u_n (by omega)]
  · simp (disch := decide) only [sx_u_n]
  · simp (disch := decide) only [sx_u_n]
  · simp (disch := decide) only [sx_u_n]
  · simp (disch := decide) only [sx_u_n]
  · simp (disch := decide) only [sx_u_n]
end
section
theorem k_bars {t : Nat} {f g : sx_F} (h : z_I t f g) : P_case_bars f g (z_I (t + 1)) := by
  have hI := h
  obtain ⟨S, R⟩ := h
  refine nm_e ⟨?_, hI.go _⟩
  rw [R.1.1, sx_u_s, pk_un (by decide)]
  exact R.2.1.1.symm
theorem k_copies {t : Nat} {f g : sx_F} (h : z_I t f g) : P_case_copies f g (z_I (t + 1)) := by
  have hI := h
  obtain ⟨S, R⟩ := h
  obtain ⟨m, hm, e1, e2, -⟩ := R.2.2.2.2.2.2.1
  refine nm_e ⟨?_, hI.go _⟩
  rw [e1, sx_u_s, pk_un (by decide)]
  exact e2.symm
theorem k_concerts {t : Nat} {f g : sx_F} (h : z_I t f g) : P_case_concerts f g (z_I (t + 1)) := by
  have hI := h
  obtain ⟨S, R⟩ := h
  refine nm_e ⟨?_, hI.go _⟩
  rw [sx_u_s, pk_un (by decide)]
  exact R.2.2.2.2.2.2.2.1
theorem k_notes {t : Nat} {f g : sx_F} {o : Nat → Int64} {x1 x2 : Int32} (h : z_I t f g) : P_case_notes f g o x1 x2 (z_I (t + 1)) := by
  have hI := h
  obtain ⟨S, R⟩ := h
  have hn := R.2.2.1.1
  unfold P_case_notes P_L_notes P_X6_notes
  rcases z_pair x1 x2 (a := 5) (n := S 0 0) (by omega) (by omega) with hbad | ⟨i, b, hi, hb, rfl, rfl⟩
  · refine x_needSlot_f R.1 hbad ⟨rfl, ?_⟩
    intro B20 B21 h20 h21
    exact m_pair_f R.2.1 R.2.2.1 hbad (h20 _ (h21 _ _ (m_goes_1 ⟨fun _ => z_finE z_33 (by decide) (hI.go _), fun c => absurd rfl c⟩)))
  have hs : 12 * i + b < 60 := by omega
  refine x_needSlot_t R.1 R.2.2.1 hi hb ⟨vp_in_nI (by omega) (by omega), nm_e ?_⟩
  intro B20 B21 h20 h21
  refine m_pair_t R.2.1 R.2.2.1 hi hb (h21 _ _ (m_goes_0 ⟨fun c => absurd c (by decide), fun _ => m_cell ⟨vp_in_nI (by omega) (by omega), ?_⟩⟩))
  refine z_fin0 z_33 ?_ (hI.go _)
  rw [nI_clamp (by omega), sx_u_n (by decide), R.1.2.2.1 _ hs, R.2.1.2.2.1 _ hs]
theorem k_version {t : Nat} {f g : sx_F} {o : Nat → Int64} {x1 x2 : Int32} (h : z_I t f g) : P_case_version f g o x1 x2 (z_I (t + 1)) := by
  have hI := h
  obtain ⟨S, R⟩ := h
  have hn := R.2.2.1.1
  unfold P_case_version P_L_version P_X6_version
  rcases z_pair x1 x2 (a := 5) (n := S 0 0) (by omega) (by omega) with hbad | ⟨i, b, hi, hb, rfl, rfl⟩
  · refine x_needSlot_f R.1 hbad ⟨rfl, ?_⟩
    intro B20 B21 h20 h21
    exact m_pair_f R.2.1 R.2.2.1 hbad (h20 _ (h21 _ _ (m_goes_1 ⟨fun _ => z_finE z_33 (by decide) (hI.go _), fun c => absurd rfl c⟩)))
  have hs : 12 * i + b < 60 := by omega
  refine x_needSlot_t R.1 R.2.2.1 hi hb ⟨vp_in_nI (by omega) (by omega), nm_e ?_⟩
  intro B20 B21 h20 h21
  refine m_pair_t R.2.1 R.2.2.1 hi hb (h21 _ _ (m_goes_0 ⟨fun c => absurd c (by decide), fun _ => m_cell ⟨vp_in_nI (by omega) (by omega), ?_⟩⟩))
  refine z_fin0 z_33 ?_ (hI.go _)
  rw [nI_clamp (by omega), sx_u_n (by decide), (R.2.2.2.2.1 _ hs).1]
theorem k_noteAt {t : Nat} {f g : sx_F} {o : Nat → Int64} {x1 x2 x3 : Int32} (h : z_I t f g) : P_case_noteAt f g o x1 x2 x3 (z_I (t + 1)) := by
  have hI := h
  obtain ⟨S, R⟩ := h
  have hn := R.2.2.1.1
  unfold P_case_noteAt P_L_noteAt P_X6_noteAt
  have bad : ∀ QQ : Int32 → sx_F → Prop, ((((x1 < 0 ∨ nI 5 ≤ x1) ∨ (x2 < 0 ∨ nI (S 0 0) ≤ x2)) ∨ ∃ i b : Nat, i < 5 ∧ b < S 0 0 ∧ x1 = nI i ∧ x2 = nI b ∧ (x3 < 0 ∨ nI (S 2 (12 * i + b)) ≤ x3))) → QQ 0 (sx_u g 0 33 1) → P_X7_noteAt g x1 x2 x3 QQ := fun QQ hb q => m_isNote_f R.2.1 R.2.2.1 hb (m_goes_1 ⟨fun _ => q, fun c => absurd rfl c⟩)
  rcases z_pair x1 x2 (a := 5) (n := S 0 0) (by omega) (by omega) with hbad | ⟨i, b, hi, hb, rfl, rfl⟩
  · exact x_needSlot_f R.1 hbad ⟨rfl, bad _ (Or.inl hbad) (z_finE z_33 (by decide) (hI.go _))⟩
  have hs : 12 * i + b < 60 := by omega
  have hc8 := R.2.2.1.2.2.1 _ hs
  refine x_needSlot_t R.1 R.2.2.1 hi hb ⟨vp_in_nI (by omega) (by omega), ?_⟩
  rw [nI_clamp (by omega), R.1.2.2.1 _ hs]
  rcases pk_ix x3 (n := S 2 (12 * i + b)) (by omega) with h3 | h3 | ⟨k, hk, rfl⟩
  · exact x_needIndex_f (Or.inl h3) ⟨rfl, bad _ (Or.inr ⟨i, b, hi, hb, rfl, rfl, Or.inl h3⟩) (z_finE z_33 (by decide) (hI.go _))⟩
  · exact x_needIndex_f (Or.inr h3) ⟨rfl, bad _ (Or.inr ⟨i, b, hi, hb, rfl, rfl, Or.inr h3⟩) (z_finE z_33 (by decide) (hI.go _))⟩
  refine x_needIndex_t hk (by omega) (x_lengthAt R.1 hs (by omega) (x_pitchAt R.1 hs (by omega) (nm_e ?_)))
  refine m_isNote_t R.2.1 R.2.2.1 hi hb hk (m_goes_0 ⟨fun c => absurd c (by decide), fun _ => m_cell (nm_e ⟨?_, ?_, ?_⟩)⟩)
  · rw [z_at']; exact vp_in_nI (by omega) (by omega)
  · rw [z_at']; exact vp_in_nI (by omega) (by omega)
  · refine z_fin0 z_33 ?_ (hI.go _)
    rw [z_at', nI_clamp (by omega), sx_u_n (by decide), sx_u_n (by decide), R.2.1.2.2.2.1 _ (by omega), R.2.1.2.2.2.2 _ (by omega)]
theorem m_time {g : sx_F} {S : z_S} (M : z_M g S) (W : z_W S) {x : Int32} {Q : Int32 → sx_F → Prop} (h1 : (x < 0 ∨ nI (S 0 0 + 1) ≤ x) → Q 0 (sx_u g 0 33 1)) (h2 : ∀ b, b ≤ S 0 0 → x = nI b → Q (nI (z_tm S b)) (sx_u g 0 33 0)) : P_X7_time g x Q := by
  have hn := W.1
  intro B hB
  have e : ∀ y : Int32, nI (S 0 0) < y ↔ nI (S 0 0 + 1) ≤ y := fun y => by
    rw [← z_pred y (n := S 0 0 + 1) (by omega), nI_pred]
  rw [M.1]
  rcases pk_ix x (n := S 0 0 + 1) (by omega) with hx | hx | ⟨b, hb, rfl⟩
  · exact m_in_f (Or.inl hx) (m_goes_1 (hB _ _ _ _ ⟨fun _ => h1 (Or.inl hx), fun c => absurd rfl c⟩))
  · exact m_in_f (Or.inr ((e x).mpr hx)) (m_goes_1 (hB _ _ _ _ ⟨fun _ => h1 (Or.inr hx), fun c => absurd rfl c⟩))
  · refine m_in_t (nI_pos (by omega)) (nI_nlt (by omega) (by omega)) (m_goes_0 ?_)
    have q := h2 b (by omega) rfl
    refine z_up (B := fun k => B (sx_u g 0 33 0) (nI (z_tm S k)) 1 (nI k)) b (fun k hk ih => hB _ _ _ _ ⟨fun c => absurd c (by decide), fun _ => pk_le b k (fun c => ?_) (fun c => ⟨vp_in_nI (by omega) (by omega), nm_e (nm_e ?_)⟩)⟩)
    · rw [show k = b by omega]; exact q
    · rw [nI_clamp (by omega), sx_u_n (by decide), M.2.1 k (by omega), nI_add, nI_1]
      exact ih c
theorem k_time {t : Nat} {f g : sx_F} {o : Nat → Int64} {x : Int32} (h : z_I t f g) : P_case_time f g o x (z_I (t + 1)) := by
  have hI := h
  obtain ⟨S, R⟩ := h
  have hn := R.2.2.1.1
  unfold P_case_time P_L_time P_X6_time
  rw [R.1.1, nI_1]
  rcases pk_ix x (n := S 0 0 + 1) (by omega) with hx | hx | ⟨b, hb, rfl⟩
  · exact x_needIndex_f (Or.inl hx) ⟨rfl, m_time R.2.1 R.2.2.1 (fun _ => z_finE z_33 (by decide) (hI.go _)) (fun b hb e => absurd hx (by rw [e]; exact nI_pos (by omega)))⟩
  · exact x_needIndex_f (Or.inr hx) ⟨rfl, m_time R.2.1 R.2.2.1 (fun _ => z_finE z_33 (by decide) (hI.go _)) (fun b hb e => absurd hx (by rw [e]; exact nI_ge (by omega) (by omega)))⟩
  · refine x_needIndex_t hb (by omega) ⟨vp_in_nI (by omega) (by omega), nm_e (m_time R.2.1 R.2.2.1 (fun c => absurd c (fun z => z.elim (nI_pos (by omega)) (nI_ge hb (by omega)))) (fun b' hb' e => ?_))⟩
    have eb : b = b' := (nI_eq (by omega) (by omega)).mp e
    subst eb
    refine z_fin0 z_33 ?_ (hI.go _)
    rw [nI_clamp (by omega), R.2.2.2.1 b hb']
theorem k_timeByBars {t : Nat} {f g : sx_F} {o : Nat → Int64} {x : Int32} (h : z_I t f g) : P_case_timeByBars f g o x (z_I (t + 1)) := by
  have hI := h
  obtain ⟨S, R⟩ := h
  have hn := R.2.2.1.1
  unfold P_case_timeByBars P_L_timeByBars P_X6_timeByBars
  rw [R.1.1, nI_1]
  rcases pk_ix x (n := S 0 0 + 1) (by omega) with hx | hx | ⟨b, hb, rfl⟩
  · exact x_needIndex_f (Or.inl hx) ⟨rfl, m_time R.2.1 R.2.2.1 (fun _ => z_finE z_33 (by decide) (hI.go _)) (fun b hb e => absurd hx (by rw [e]; exact nI_pos (by omega)))⟩
  · exact x_needIndex_f (Or.inr hx) ⟨rfl, m_time R.2.1 R.2.2.1 (fun _ => z_finE z_33 (by decide) (hI.go _)) (fun b hb e => absurd hx (by rw [e]; exact nI_ge (by omega) (by omega)))⟩
  · refine x_needIndex_t hb (by omega) (x_countTime R.1 R.2.2.1 (by omega) (nm_e (m_time R.2.1 R.2.2.1 (fun c => absurd c (fun z => z.elim (nI_pos (by omega)) (nI_ge hb (by omega)))) (fun b' hb' e => ?_))))
    have eb : b = b' := (nI_eq (by omega) (by omega)).mp e
    subst eb
    exact z_fin0 z_33 rfl (hI.go _)
end
section
theorem z_nm {d : Nat} (h : d < 2 ^ 31) : ¬ nI d = -1 := fun e => nI_pos h (by rw [e]; decide)
def z_cnt (p : Nat → Bool) : Nat → Nat | 0 => 0 | k + 1 => z_cnt p k + (if p k then 1 else 0)
theorem z_cnt_c {p q : Nat → Bool} : ∀ k, (∀ j, j < k → p j = q j) → z_cnt p k = z_cnt q k
  | 0, _ => rfl
  | k + 1, h => by
    unfold z_cnt
    rw [z_cnt_c k (fun j hj => h j (by omega)), h k (by omega)]
theorem z_cnt_le {p : Nat → Bool} : ∀ k, z_cnt p k ≤ k
  | 0 => Nat.le_refl _
  | k + 1 => by
    unfold z_cnt
    have := z_cnt_le (p := p) k
    split <;> omega
theorem z_cnt_0 {p : Nat → Bool} : ∀ k, z_cnt p k = 0 ↔ ∀ j, j < k → p j = false
  | 0 => ⟨fun _ j hj => absurd hj (by omega), fun _ => rfl⟩
  | k + 1 => by
    unfold z_cnt
    have ih := z_cnt_0 (p := p) k
    constructor
    · intro h j hj
      by_cases e : j = k
      · rw [e]
        cases hp : p k
        · rfl
        · rw [hp] at h; simp at h
      · exact ih.mp (by omega) j (by omega)
    · intro h
      rw [ih.mpr (fun j hj => h j (by omega)), h k (by omega)]
      rfl
def z_ow (f : sx_F) (o a b : Nat) : Bool := decide (¬ f o 2 = -1 ∧ ¬ f (o + 1) b = f 4 (12 * a + b))
def z_owm (g : sx_F) (i a b : Nat) : Bool := decide (¬ g 7 i = -1 ∧ ¬ g 8 (12 * i + b) = g 5 (12 * a + b))
theorem x_isOut {f : sx_F} {o : Nat} {Q : Int32 → Prop} (h : Q (z_b (decide (¬ f o 2 = -1)))) : P_X1_isOut f o Q := by
  refine ⟨fun c => ?_, fun c => ?_⟩
  · rw [decide_eq_false (fun z => z c)] at h; exact h
  · rw [decide_eq_true c] at h; exact h
theorem x_scoreVersion {f : sx_F} {o a b : Nat} {Q : Int32 → Prop} (h1 : f o 1 = nI a) (ha : a < 5) (hb : b < 12) (h : Q (f 4 (12 * a + b))) : P_X1_scoreVersion f o (nI b) Q := by
  unfold P_X1_scoreVersion
  rw [h1]
  refine x_slotOf ⟨vp_in_nI (by omega) (by omega), ?_⟩
  rw [nI_clamp (by omega)]
  exact h
theorem x_versionOf {f : sx_F} {o a b : Nat} {Q : Int32 → Prop} (h1 : f o 1 = nI a) (ha : a < 5) (hb : b < 12) (h : Q (if f o 2 = -1 then f 4 (12 * a + b) else f (o + 1) b)) : P_X1_versionOf f o (nI b) Q := by
  refine ⟨fun c => ⟨fun _ => x_scoreVersion h1 ha hb ?_, fun c => absurd rfl c⟩, fun c => ⟨fun e => absurd e (by decide), fun _ => ⟨vp_in_nI (by omega) (by omega), ?_⟩⟩⟩
  · rw [if_pos c] at h; exact h
  · rw [if_neg c] at h; rw [nI_clamp (by omega)]; exact h
theorem x_owes {f : sx_F} {o a b : Nat} {Q : Int32 → Prop} (h1 : f o 1 = nI a) (ha : a < 5) (hb : b < 12) (h : Q (z_b (z_ow f o a b))) : P_X1_owes f o (nI b) Q := by
  refine x_versionOf h1 ha hb (x_scoreVersion h1 ha hb ?_)
  unfold z_ow at h
  by_cases c : f o 2 = -1
  · rw [decide_eq_false (fun z => z.1 c)] at h
    rw [if_pos c]
    exact ⟨fun _ => h, fun z => absurd rfl z⟩
  · rw [if_neg c]
    refine ⟨fun z => ?_, fun z => ?_⟩
    · rw [decide_eq_false (fun y => y.2 z)] at h; exact h
    · rw [decide_eq_true ⟨c, z⟩] at h; exact h
theorem x_countDebts {f : sx_F} {n o a : Nat} {Q : Int32 → Prop} (hn : f 1 0 = nI n) (hn12 : n ≤ 12) (h1 : f o 1 = nI a) (ha : a < 5) (h : Q (nI (z_cnt (z_ow f o a) n))) : P_X1_countDebts f o Q := by
  intro B4 B26 h4 h26
  refine z_up (B := fun k => B4 (nI (z_cnt (z_ow f o a) k)) (nI k)) n (fun k hk ih => h4 _ _ ?_)
  rw [hn]
  refine pk_le n k (fun c => ?_) (fun c => x_owes h1 ha (by omega) ?_)
  · rw [show k = n by omega]; exact h
  · have i2 : B4 (nI (z_cnt (z_ow f o a) k + (if z_ow f o a k then 1 else 0))) (nI (k + 1)) := ih c
    cases hp : z_ow f o a k
    · rw [hp] at i2
      exact ⟨fun _ => h26 _ _ (nm_e (by rw [nI_1]; exact i2)), fun z => absurd rfl z⟩
    · rw [hp] at i2
      exact ⟨fun z => absurd z (by decide), fun _ => nm_e (h26 _ _ (nm_e (by rw [nI_1, nI_1]; exact i2)))⟩
theorem m_owes {g : sx_F} {i a b : Nat} {Q : Int32 → Prop} (hi : i < 16) (h1 : g 6 i = nI a) (ha : a < 5) (hb : b < 12) (h : Q (z_b (z_owm g i a b))) : P_X7_owes g (nI i) (nI b) Q := by
  unfold P_X7_owes
  rw [z_cell, nI_clamp (n := i) (by omega), h1, nI_clamp (n := 12 * i + b) (by omega)]
  unfold z_owm at h
  refine ⟨vp_in_nI (by omega) (by omega), fun c => ?_, fun c => ⟨vp_in_nI (by omega) (by omega), vp_in_nI (by omega) (by omega), m_cell ⟨vp_in_nI (by omega) (by omega), fun z => ?_, fun z => ?_⟩⟩⟩
  · rw [decide_eq_false (fun z => z.1 c)] at h; exact h
  · rw [nI_clamp (by omega)] at z
    rw [decide_eq_false (fun y => y.2 z)] at h; exact h
  · rw [nI_clamp (by omega)] at z
    rw [decide_eq_true ⟨c, z⟩] at h; exact h
theorem m_owedBy {g : sx_F} {n i a : Nat} {Q : Int32 → Prop} (hn : g 0 5 = nI n) (hn12 : n ≤ 12) (hi : i < 16) (h1 : g 6 i = nI a) (ha : a < 5) (h : Q (nI (z_cnt (z_owm g i a) n))) : P_X7_owedBy g (nI i) Q := by
  intro B4 B27 h4 h27
  refine z_up (B := fun k => B4 (nI (z_cnt (z_owm g i a) k)) (nI k)) n (fun k hk ih => h4 _ _ ?_)
  rw [hn]
  refine pk_le n k (fun c => ?_) (fun c => m_owes hi h1 ha (by omega) ?_)
  · rw [show k = n by omega]; exact h
  · have i2 : B4 (nI (z_cnt (z_owm g i a) k + (if z_owm g i a k then 1 else 0))) (nI (k + 1)) := ih c
    cases hp : z_owm g i a k
    · rw [hp] at i2
      exact ⟨fun _ => h27 _ _ _ (nm_e (nm_e (by rw [nI_1]; exact (Int32.add_zero _).symm ▸ i2))), fun z => absurd rfl z⟩
    · rw [hp] at i2
      exact ⟨fun z => absurd z (by decide), fun _ => h27 _ _ _ (nm_e (nm_e (by rw [nI_1, nI_1]; exact i2)))⟩
theorem z_ow_eq {t : Nat} {f g : sx_F} {S : z_S} {i a b : Nat} (R : z_R t f g S) (h : z_C1 f g i) (ha : a < 5) (hb : b < 12) : z_ow f (66 + 2 * i) a b = z_owm g i a b := by
  unfold z_ow z_owm
  rw [h.2.1, (R.2.2.2.2.1 (12 * a + b) (by omega)).1]
  rcases h.2.2 with e | ⟨-, e⟩
  · rw [decide_eq_false (fun z => z.1 e), decide_eq_false (fun z => z.1 e)]
  · rw [e b hb]
theorem x_copiesOut {f : sx_F} {m : Nat} {Q : Int32 → Prop} (hm : f 0 5 = nI m) (hm16 : m ≤ 16) (h : Q (nI (z_cnt (fun i => decide (¬ f (66 + 2 * i) 2 = -1)) m))) : P_X6_copiesOut f Q := by
  intro B4 B27 h4 h27
  refine z_up (B := fun k => B4 (nI (z_cnt (fun i => decide (¬ f (66 + 2 * i) 2 = -1)) k)) (nI k)) m (fun k hk ih => h4 _ _ ?_)
  rw [hm]
  refine pk_le m k (fun c => ?_) (fun c => ⟨vp_in_nI (by omega) (by omega), nm_e ?_⟩)
  · rw [show k = m by omega]; exact h
  · rw [nI_clamp (by omega)]
    refine x_isOut ?_
    have i2 : B4 (nI (z_cnt (fun i => decide (¬ f (66 + 2 * i) 2 = -1)) k + (if decide (¬ f (66 + 2 * k) 2 = -1) then 1 else 0))) (nI (k + 1)) := ih c
    cases hp : decide (¬ f (66 + 2 * k) 2 = -1)
    · rw [hp] at i2
      exact ⟨fun _ => h27 _ _ (nm_e (by rw [nI_1]; exact i2)), fun z => absurd rfl z⟩
    · rw [hp] at i2
      exact ⟨fun z => absurd z (by decide), fun _ => nm_e (h27 _ _ (nm_e (by rw [nI_1, nI_1]; exact i2)))⟩
theorem m_away {g : sx_F} {m : Nat} {Q : Int32 → Prop} (hm : g 0 11 = nI m) (hm16 : m ≤ 16) (h : Q (nI (z_cnt (fun i => decide (¬ g 7 i = -1)) m))) : P_X7_away g Q := by
  intro B4 B28 h4 h28
  refine z_up (B := fun k => B4 (nI (z_cnt (fun i => decide (¬ g 7 i = -1)) k)) (nI k)) m (fun k hk ih => h4 _ _ ?_)
  rw [hm]
  refine pk_le m k (fun c => ?_) (fun c => ⟨vp_in_nI (by omega) (by omega), ?_⟩)
  · rw [show k = m by omega]; exact h
  · rw [nI_clamp (by omega)]
    have i2 : B4 (nI (z_cnt (fun i => decide (¬ g 7 i = -1)) k + (if decide (¬ g 7 k = -1) then 1 else 0))) (nI (k + 1)) := ih c
    refine ⟨fun c1 => ?_, fun c1 => ?_⟩
    · rw [decide_eq_false (fun z => z c1)] at i2
      exact h28 _ _ _ (nm_e (nm_e (by rw [nI_1]; exact (Int32.add_zero _).symm ▸ i2)))
    · rw [decide_eq_true c1] at i2
      exact h28 _ _ _ (nm_e (nm_e (by rw [nI_1, nI_1]; exact i2)))
theorem z_out_eq {f g : sx_F} {m : Nat} (h : ∀ i, i < m → f (66 + 2 * i) 2 = g 7 i) : z_cnt (fun i => decide (¬ f (66 + 2 * i) 2 = -1)) m = z_cnt (fun i => decide (¬ g 7 i = -1)) m :=
  z_cnt_c m (fun i hi => by rw [h i hi])
theorem x_takeVersions {f : sx_F} {n o a : Nat} {Q : sx_F → Prop} (ho : 66 ≤ o) (hn : f 1 0 = nI n) (hn12 : n ≤ 12) (h1 : f o 1 = nI a) (ha : a < 5) (h : ∀ f' : sx_F, (∀ k, k ≠ o + 1 → f' k = f k) → (∀ k, k < 12 → f' (o + 1) k = if k < n then f 4 (12 * a + k) else -1) → Q f') : P_X1_takeVersions f o Q := by
  intro B2 B33 h2 h33
  have key : ∀ f' : sx_F, (∀ k, k ≠ o + 1 → f' k = f k) → (∀ k, k < 0 → f' (o + 1) k = if k < n then f 4 (12 * a + k) else -1) → B2 f' (nI 0) := by
    refine z_up (B := fun j => ∀ f' : sx_F, (∀ k, k ≠ o + 1 → f' k = f k) → (∀ k, k < j → f' (o + 1) k = if k < n then f 4 (12 * a + k) else -1) → B2 f' (nI j)) 12 (fun j hj ih => ?_)
    intro f' e1 e2
    refine h2 _ _ (pk_le 12 j (fun c => h f' e1 (fun k hk => e2 k (by omega))) (fun c => ?_))
    rw [e1 1 (by omega), hn]
    have st : ∀ v, v = (if j < n then f 4 (12 * a + j) else -1) → B33 f' (nI j) (nI j) v := by
      intro v hv
      refine h33 _ _ _ _ ⟨vp_in_nI (by omega) (by omega), nm_e (nm_e ?_)⟩
      rw [nI_clamp (by omega), nI_1]
      refine ih c _ (fun k hk => by rw [sx_u_n hk]; exact e1 k hk) (fun k hk => ?_)
      rw [sx_u_s]
      by_cases e : k = j
      · rw [e, pk_us]; exact hv
      · rw [pk_un e]; exact e2 k (by omega)
    refine pk_le n j (fun c1 => st _ (by rw [if_neg (by omega)])) (fun c1 => x_scoreVersion (a := a) (by rw [e1 o (by omega)]; exact h1) ha c (st _ (by rw [if_pos c1, e1 4 (by omega)])))
  exact key f (fun _ _ => rfl) (fun k hk => absurd hk (by omega))
theorem m_renews {g : sx_F} {n i a : Nat} {Q : sx_F → Prop} (hn : g 0 5 = nI n) (hn12 : n ≤ 12) (hi : i < 16) (h1 : g 6 i = nI a) (ha : a < 5) (h : ∀ g' : sx_F, (∀ k, k ≠ 8 → g' k = g k) → (∀ j, (j < 12 * i ∨ 12 * i + 12 ≤ j) → g' 8 j = g 8 j) → (∀ k, k < 12 → g' 8 (12 * i + k) = if k < n then g 5 (12 * a + k) else -1) → Q g') : P_X7_renews g (nI i) Q := by
  intro B2 B45 h2 h45
  have key : ∀ g' : sx_F, (∀ k, k ≠ 8 → g' k = g k) → (∀ j, (j < 12 * i ∨ 12 * i + 12 ≤ j) → g' 8 j = g 8 j) → (∀ k, k < 0 → g' 8 (12 * i + k) = if k < n then g 5 (12 * a + k) else -1) → B2 g' (nI 0) := by
    refine z_up (B := fun j => ∀ g' : sx_F, (∀ k, k ≠ 8 → g' k = g k) → (∀ j, (j < 12 * i ∨ 12 * i + 12 ≤ j) → g' 8 j = g 8 j) → (∀ k, k < j → g' 8 (12 * i + k) = if k < n then g 5 (12 * a + k) else -1) → B2 g' (nI j)) 12 (fun j hj ih => ?_)
    intro g' e1 e0 e2
    refine h2 _ _ (pk_le 12 j (fun c => h g' e1 e0 (fun k hk => e2 k (by omega))) (fun c => ?_))
    rw [e1 0 (by omega), hn, z_cell, nI_clamp (n := i) (by omega), e1 6 (by omega), h1]
    have st : ∀ v, v = (if j < n then g 5 (12 * a + j) else -1) → B45 g' (nI j) (nI (12 * i + j)) v := by
      intro v hv
      refine h45 _ _ _ _ ⟨vp_in_nI (by omega) (by omega), nm_e (nm_e ?_)⟩
      rw [nI_clamp (by omega), nI_1]
      refine ih c _ (fun k hk => by rw [sx_u_n hk]; exact e1 k hk) (fun q hq => ?_) (fun k hk => ?_)
      · rw [sx_u_s, pk_un (by omega)]; exact e0 q hq
      · rw [sx_u_s]
        by_cases e : k = j
        · rw [e, pk_us]; exact hv
        · rw [pk_un (by omega)]; exact e2 k (by omega)
    refine pk_le n j (fun c1 => st _ (by rw [if_neg (by omega)])) (fun c1 => ⟨vp_in_nI (by omega) (by omega), m_cell ⟨vp_in_nI (by omega) (by omega), st _ ?_⟩⟩)
    rw [if_pos c1, nI_clamp (by omega), e1 5 (by omega)]
  exact key g (fun _ _ => rfl) (fun _ _ => rfl) (fun k hk => absurd hk (by omega))
end
section
theorem z_R.cp {t : Nat} {f g f' g' : sx_F} {S : z_S} (R : z_R t f g S) (hf : ∀ k, ((1 ≤ k ∧ k ≤ 65) ∨ 99 ≤ k) → f' k = f k) (hg : ∀ k, ((1 ≤ k ∧ k ≤ 5) ∨ 9 ≤ k) → g' k = g k) (hg0 : ∀ j, (j = 5 ∨ j = 6 ∨ j = 7) → g' 0 j = g 0 j) (hC : z_C f' g') (h6 : f' 0 6 = g' 0 12) : z_R (t + 1) f' g' S := by
  obtain ⟨R1, R2, R3, R4, R5, R6, R7, R8, R9⟩ := R.mono
  refine ⟨?_, ?_, R3, ?_, ?_, ?_, hC, h6, ?_⟩
  · unfold z_X at R1 ⊢
    simp (disch := omega) only [hf]
    exact R1
  · unfold z_M at R2 ⊢
    simp (disch := omega) only [hg, hg0]
    exact R2
  · unfold z_T at R4 ⊢
    simp (disch := omega) only [hf]
    exact R4
  · unfold z_V at R5 ⊢
    simp (disch := omega) only [hf, hg]
    exact R5
  · unfold z_P at R6 ⊢
    simp (disch := omega) only [hf, hg0]
    exact R6
  · unfold z_D z_D1 z_D2 at R9 ⊢
    simp (disch := omega) only [hf, hg]
    exact R9
theorem k_copy {t : Nat} {f g : sx_F} {o : Nat → Int64} {x : Int32} (h : z_I t f g) : P_case_copy f g o x (z_I (t + 1)) := by
  have hI := h
  obtain ⟨S, R⟩ := h
  obtain ⟨m, hm, e1, e2, C1, C2⟩ := R.2.2.2.2.2.2.1
  unfold P_case_copy P_L_copy P_X6_copy
  have bad : ∀ QQ : Int32 → sx_F → Prop, (x < 0 ∨ nI 5 ≤ x) → QQ 0 (sx_u g 0 33 1) → P_X7_copy g x QQ := by
    intro QQ hb q B hB
    have k : ∀ y, B g 0 y := fun y => hB _ _ _ (m_goes_1 ⟨fun _ => q, fun c => absurd rfl c⟩)
    refine m_isInstrument ?_
    rw [z_no hb]
    exact ⟨fun _ => k 0, fun _ => k 1⟩
  rcases pk_ix x (n := 5) (by omega) with hx | hx | ⟨a, ha, rfl⟩
  · exact x_needIndex_f (Or.inl hx) (Or.inl ⟨rfl, bad _ (Or.inl hx) (z_finE z_33 (by decide) (hI.go _))⟩)
  · exact x_needIndex_f (Or.inr hx) (Or.inl ⟨rfl, bad _ (Or.inr hx) (z_finE z_33 (by decide) (hI.go _))⟩)
  refine x_needIndex_t (n := 5) ha (by omega) ?_
  rw [e1]
  refine pk_lt m 16 (fun c => ⟨vp_in_nI c (by omega), nm_e (nm_e (nm_e (nm_e ?_)))⟩) (fun c => Or.inr ⟨rfl, ?_⟩)
  · rw [nI_clamp (by omega)]
    intro B hB
    refine m_isInstrument ?_
    rw [z_yes ha (by omega), e2]
    refine pk_le 16 m (fun z => absurd z (by omega)) (fun _ => hB _ _ _ (m_goes_0 ⟨fun z => absurd z (by decide), fun _ => ?_⟩))
    rw [show (sx_u g 0 33 0) 0 11 = nI m by rw [sx_u_s, pk_un (by decide)]; exact e2]
    refine ⟨vp_in_nI c (by omega), nm_e ?_⟩
    rw [show (sx_u (sx_u g 0 33 0) 6 (nI m).toNatClampNeg (nI a)) 0 11 = nI m by rw [sx_u_n (by decide), sx_u_s, pk_un (by decide)]; exact e2]
    refine ⟨vp_in_nI c (by omega), nm_e (nm_e ?_)⟩
    rw [nI_clamp (by omega)]
    refine z_fin0 (by simp (disch := decide) only [sx_u_n, sx_u_s, pk_un, pk_us]) ?_ ⟨S, R.cp ?_ ?_ ?_ ⟨m + 1, by omega, ?_, ?_, fun i hi => ?_, fun i hi hi2 => ?_⟩ ?_⟩
    · rw [sx_u_s, pk_us, sx_u_s, pk_us, sx_u_n (by omega), e1, sx_u_n (by decide), sx_u_n (by decide), sx_u_s, pk_un (by decide), e2]
    · intro k hk; rw [sx_u_n (by omega), sx_u_n (by omega)]
    · intro k hk; rw [sx_u_n (by omega), sx_u_n (by omega), sx_u_n (by omega), sx_u_n (by omega)]
    · intro j hj
      rw [sx_u_s, pk_un (by omega), sx_u_n (by decide), sx_u_n (by decide), sx_u_s, pk_un (by omega)]
    · rw [sx_u_s, pk_us, sx_u_n (by omega), e1, nI_1]
    · rw [sx_u_s, pk_us, sx_u_n (by decide), sx_u_n (by decide), sx_u_s, pk_un (by decide), e2, nI_1]
    · unfold z_C1
      by_cases e : i = m
      · subst e
        rw [sx_u_n (by omega), sx_u_s, pk_us, pk_un (by decide), sx_u_n (by decide), sx_u_n (by decide), sx_u_s, pk_us, sx_u_n (by decide), sx_u_s, pk_us]
        exact ⟨⟨a, ha, rfl, rfl⟩, C2 i (Nat.le_refl _) c, Or.inl rfl⟩
      · have hc := C1 i (by omega)
        rw [sx_u_n (by omega), sx_u_n (by omega), sx_u_n (k := 0) (by decide), sx_u_n (k := 7) (by decide), sx_u_s, pk_un (by omega), sx_u_n (by decide), sx_u_n (k := 0) (by decide), sx_u_s, pk_un (by omega), sx_u_n (by decide), sx_u_n (by decide), sx_u_n (by omega), sx_u_n (by omega), sx_u_n (by decide), sx_u_n (by decide), sx_u_n (by decide), sx_u_n (by decide)]
        exact hc
    · rw [sx_u_n (by omega), sx_u_n (by omega)]
      exact C2 i (by omega) hi2
    · rw [sx_u_s, pk_un (by decide), sx_u_n (by omega), sx_u_s, pk_un (by decide), sx_u_n (by decide), sx_u_n (by decide), sx_u_s, pk_un (by decide)]
      exact R.2.2.2.2.2.2.2.1
  · intro B hB
    refine m_isInstrument ?_
    rw [z_yes ha (by omega), e2]
    exact pk_le 16 m (fun _ => hB _ _ _ (m_goes_2 ⟨fun _ => z_finE z_33 (by decide) (hI.go _), fun c => absurd rfl c⟩)) (fun z => absurd z (by omega))
theorem x_needCopyOut {f : sx_F} {m i : Nat} {Q : Nat → Prop} {X : String → Prop} (hm : f 0 5 = nI m) (hm16 : m ≤ 16) (hi : i < m) (h0 : f (66 + 2 * i) 2 = -1 → X "java/lang/IllegalStateException") (h1 : ¬ f (66 + 2 * i) 2 = -1 → Q (66 + 2 * i)) : P_X6_needCopyOut f (nI i) Q X := by
  unfold P_X6_needCopyOut
  rw [hm]
  refine x_needIndex_t hi (by omega) ⟨vp_in_nI (by omega) (by omega), nm_e ?_⟩
  rw [nI_clamp (by omega)]
  exact ⟨fun c => ⟨fun _ => h0 c, fun z => absurd rfl z⟩, fun c => ⟨fun z => absurd z (by decide), fun _ => h1 c⟩⟩
theorem m_isAway {g : sx_F} {m i : Nat} {Q : Int32 → Prop} (hm : g 0 11 = nI m) (hm16 : m ≤ 16) (hi : i < m) (h : Q (z_b (decide (¬ g 7 i = -1)))) : P_X7_isAway g (nI i) Q := by
  refine m_isCopy hm (by omega) ?_
  rw [z_yes hi (by omega)]
  refine ⟨fun c => absurd c (by decide), fun _ => ⟨vp_in_nI (by omega) (by omega), ?_⟩⟩
  rw [nI_clamp (by omega)]
  refine ⟨fun c => ?_, fun c => ?_⟩
  · rw [decide_eq_false (fun z => z c)] at h; exact h
  · rw [decide_eq_true c] at h; exact h
theorem m_isAway_f {g : sx_F} {m : Nat} {x : Int32} {Q : Int32 → Prop} (hm : g 0 11 = nI m) (hm16 : m ≤ 16) (hx : x < 0 ∨ nI m ≤ x) (h : Q 0) : P_X7_isAway g x Q := by
  refine m_isCopy hm (by omega) ?_
  rw [z_no hx]
  exact ⟨fun _ => h, fun c => absurd rfl c⟩
/-- a copy as it stands in both, with its part -/
theorem z_C1.cnt {t : Nat} {f g : sx_F} {S : z_S} {i a n : Nat} (R : z_R t f g S) (h : z_C1 f g i) (ha : a < 5) (hn : n ≤ 12) : z_cnt (z_ow f (66 + 2 * i) a) n = z_cnt (z_owm g i a) n := z_cnt_c n (fun b hb => z_ow_eq R h ha (by omega))
theorem k_giveBack {t : Nat} {f g : sx_F} {o : Nat → Int64} {x : Int32} (h : z_I t f g) : P_case_giveBack f g o x (z_I (t + 1)) := by
  have hI := h
  obtain ⟨S, R⟩ := h
  have hn := R.2.2.1.1
  obtain ⟨m, hm, e1, e2, C1, C2⟩ := R.2.2.2.2.2.2.1
  unfold P_case_giveBack P_L_giveBack P_X6_giveBack
  have bad : ∀ QQ : Int32 → sx_F → Prop, (x < 0 ∨ nI m ≤ x) → QQ 0 (sx_u g 0 33 1) → P_X7_giveBack g x QQ := by
    intro QQ hb q
    refine m_isCopy e2 (by omega) ?_
    rw [z_no hb]
    exact m_isAway_f e2 hm hb (m_goes_1 ⟨fun _ => q, fun c => absurd rfl c⟩)
  rcases pk_ix x (n := m) (by omega) with hx | hx | ⟨i, hi, rfl⟩
  · exact x_needIndex_f (Or.inl hx) (Or.inl ⟨rfl, bad _ (Or.inl hx) (z_finE z_33 (by decide) (hI.go _))⟩)
  · exact x_needIndex_f (by rw [e1]; exact Or.inr hx) (Or.inl ⟨rfl, bad _ (Or.inr hx) (z_finE z_33 (by decide) (hI.go _))⟩)
  have hc := C1 i hi
  obtain ⟨⟨a, ha, a1, a2⟩, a3, a4⟩ := hc
  refine x_needCopyOut e1 hm hi (fun c => Or.inr ⟨rfl, ?_⟩) (fun c => x_countDebts (n := S 0 0) R.1.1 hn a1 ha (nm_e (nm_e ?_)))
  · refine m_isCopy e2 (by omega) ?_
    rw [z_yes hi (by omega)]
    refine m_isAway e2 hm hi ?_
    rw [decide_eq_false (fun z => z (by rw [← a3]; exact c))]
    exact m_goes_2 ⟨fun _ => z_finE z_33 (by decide) (hI.go _), fun c => absurd rfl c⟩
  · refine m_isCopy e2 (by omega) ?_
    rw [z_yes hi (by omega)]
    refine m_isAway e2 hm hi ?_
    rw [decide_eq_true (show ¬ g 7 i = -1 by rw [← a3]; exact c)]
    refine m_goes_0 ⟨fun c => absurd c (by decide), fun _ => m_owedBy (n := S 0 0) (a := a) (by rw [sx_u_s, pk_un (by decide)]; exact R.2.1.1) hn (by omega) (by rw [sx_u_n (by decide)]; exact a2) ha ⟨vp_in_nI (by omega) (by omega), nm_e ?_⟩⟩
    rw [nI_clamp (by omega)]
    refine z_fin0 (by rw [sx_u_n (by decide)]; exact z_33) ?_ ⟨S, R.cp ?_ ?_ ?_ ⟨m, hm, ?_, ?_, fun j hj => ?_, fun j hj hj2 => ?_⟩ ?_⟩
    · rw [(C1 i hi).cnt R ha hn]
      exact congrArg nI (z_cnt_c _ (fun b hb => by unfold z_owm; rw [sx_u_n (by decide), sx_u_n (by decide), sx_u_n (by decide)]))
    · intro k hk; rw [sx_u_n (by omega)]
    · intro k hk; rw [sx_u_n (by omega), sx_u_n (by omega)]
    · intro j hj; rw [sx_u_n (by decide), sx_u_s, pk_un (by omega)]
    · rw [sx_u_n (by omega)]; exact e1
    · rw [sx_u_n (by decide), sx_u_s, pk_un (by decide)]; exact e2
    · unfold z_C1
      by_cases e : j = i
      · subst e
        rw [sx_u_s, pk_us, pk_un (by decide), sx_u_s, pk_us, sx_u_n (by decide), sx_u_n (by decide)]
        exact ⟨⟨a, ha, a1, a2⟩, rfl, Or.inl rfl⟩
      · have hc := C1 j hj
        simp (disch := omega) only [sx_u_n, sx_u_s, pk_un]
        exact hc
    · by_cases e : j = i
      · omega
      · rw [sx_u_n (by omega)]; exact C2 j hj hj2
    · rw [sx_u_n (by omega), sx_u_n (by decide), sx_u_s, pk_un (by decide)]
      exact R.2.2.2.2.2.2.2.1
/-- all versions of a copy anew, in both -/
theorem z_C1.taken {t : Nat} {f g f' g' : sx_F} {S : z_S} {i a : Nat} (R : z_R t f g S) (ha : a < 5) (a1 : f' (66 + 2 * i) 1 = nI a) (a2 : g' 6 i = nI a) (a3 : f' (66 + 2 * i) 2 = g' 7 i) (a4 : ∃ d, d < 6 ∧ g' 7 i = nI d) (a5 : ∀ k, k < 12 → f' (66 + 2 * i + 1) k = if k < S 0 0 then f 4 (12 * a + k) else -1) (a6 : ∀ k, k < 12 → g' 8 (12 * i + k) = if k < S 0 0 then g 5 (12 * a + k) else -1) : z_C1 f' g' i :=
  ⟨⟨a, ha, a1, a2⟩, a3, Or.inr ⟨a4, fun k hk => by rw [a5 k hk, a6 k hk, (R.2.2.2.2.1 (12 * a + k) (by omega)).1]⟩⟩
theorem k_paste {t : Nat} {f g : sx_F} {o : Nat → Int64} {x : Int32} (h : z_I t f g) : P_case_paste f g o x (z_I (t + 1)) := by
  have hI := h
  obtain ⟨S, R⟩ := h
  have hn := R.2.2.1.1
  obtain ⟨m, hm, e1, e2, C1, C2⟩ := R.2.2.2.2.2.2.1
  unfold P_case_paste P_L_paste P_X6_paste
  have bad : ∀ QQ : Int32 → sx_F → Prop, (x < 0 ∨ nI m ≤ x) → QQ 0 (sx_u g 0 33 1) → P_X7_paste g x QQ := by
    intro QQ hb q
    refine m_isCopy e2 (by omega) ?_
    rw [z_no hb]
    exact m_isAway_f e2 hm hb (m_goes_1 ⟨fun _ => q, fun c => absurd rfl c⟩)
  rcases pk_ix x (n := m) (by omega) with hx | hx | ⟨i, hi, rfl⟩
  · exact x_needIndex_f (Or.inl hx) (Or.inl ⟨rfl, bad _ (Or.inl hx) (z_finE z_33 (by decide) (hI.go _))⟩)
  · exact x_needIndex_f (by rw [e1]; exact Or.inr hx) (Or.inl ⟨rfl, bad _ (Or.inr hx) (z_finE z_33 (by decide) (hI.go _))⟩)
  have hc := C1 i hi
  obtain ⟨⟨a, ha, a1, a2⟩, a3, a4⟩ := hc
  refine x_needCopyOut e1 hm hi (fun c => Or.inr ⟨rfl, ?_⟩) (fun c => x_countDebts (n := S 0 0) R.1.1 hn a1 ha (x_takeVersions (by omega) R.1.1 hn a1 ha (fun f' b1 b2 => nm_e ?_)))
  · refine m_isCopy e2 (by omega) ?_
    rw [z_yes hi (by omega)]
    refine m_isAway e2 hm hi ?_
    rw [decide_eq_false (fun z => z (by rw [← a3]; exact c))]
    exact m_goes_2 ⟨fun _ => z_finE z_33 (by decide) (hI.go _), fun c => absurd rfl c⟩
  · refine m_isCopy e2 (by omega) ?_
    rw [z_yes hi (by omega)]
    refine m_isAway e2 hm hi ?_
    rw [decide_eq_true (show ¬ g 7 i = -1 by rw [← a3]; exact c)]
    have g5 : (sx_u g 0 33 0) 0 5 = nI (S 0 0) := by rw [sx_u_s, pk_un (by decide)]; exact R.2.1.1
    have g6 : (sx_u g 0 33 0) 6 i = nI a := by rw [sx_u_n (by decide)]; exact a2
    refine m_goes_0 ⟨fun c => absurd c (by decide), fun _ => m_owedBy (n := S 0 0) (a := a) g5 hn (by omega) g6 ha (m_renews g5 hn (by omega) g6 ha (fun g' d1 d2 d3 => ?_))⟩
    have d0 : ∀ j, j ≠ 33 → g' 0 j = g 0 j := fun j hj => by rw [d1 0 (by decide), sx_u_s, pk_un hj]
    have dk : ∀ k, k ≠ 8 → k ≠ 0 → g' k = g k := fun k h1 h2 => by rw [d1 k h1, sx_u_n h2]
    refine z_fin0 (by rw [d1 0 (by decide)]; exact z_33) ?_ ⟨S, R.cp ?_ ?_ ?_ ⟨m, hm, ?_, ?_, fun j hj => ?_, fun j hj hj2 => ?_⟩ ?_⟩
    · rw [(C1 i hi).cnt R ha hn]
      exact congrArg nI (z_cnt_c _ (fun b hb => by unfold z_owm; rw [sx_u_n (by decide), sx_u_n (by decide), sx_u_n (by decide)]))
    · intro k hk; exact b1 k (by omega)
    · intro k hk; exact dk k (by omega) (by omega)
    · intro j hj; exact d0 j (by omega)
    · rw [b1 0 (by omega)]; exact e1
    · rw [d0 11 (by decide)]; exact e2
    · by_cases e : j = i
      · subst e
        refine z_C1.taken R ha (by rw [b1 _ (by omega)]; exact a1) (by rw [dk 6 (by decide) (by decide)]; exact a2) (by rw [b1 _ (by omega), dk 7 (by decide) (by decide)]; exact a3) ?_ b2 (fun k hk => by rw [d3 k hk, sx_u_n (by decide)])
        rw [dk 7 (by decide) (by decide)]
        rcases a4 with z | z
        · exact absurd (a3.trans z) c
        · exact z.1
      · have hc := C1 j hj
        unfold z_C1 at hc ⊢
        rw [b1 _ (by omega), b1 _ (by omega), dk 6 (by decide) (by decide), dk 7 (by decide) (by decide)]
        refine ⟨hc.1, hc.2.1, hc.2.2.imp id (fun z => ⟨z.1, fun k hk => ?_⟩)⟩
        rw [d2 _ (by omega), sx_u_n (by decide)]
        exact z.2 k hk
    · rw [b1 _ (by omega)]; exact C2 j hj hj2
    · rw [b1 0 (by omega), d0 12 (by decide)]
      exact R.2.2.2.2.2.2.2.1
theorem k_deskOf {t : Nat} {f g : sx_F} {o : Nat → Int64} {x : Int32} (h : z_I t f g) : P_case_deskOf f g o x (z_I (t + 1)) := by
  have hI := h
  obtain ⟨S, R⟩ := h
  obtain ⟨m, hm, e1, e2, C1, C2⟩ := R.2.2.2.2.2.2.1
  unfold P_case_deskOf P_L_deskOf P_X6_deskOf
  have bad : ∀ QQ : Int32 → sx_F → Prop, (x < 0 ∨ nI m ≤ x) → QQ 0 (sx_u g 0 33 1) → P_X7_deskOf g x QQ := by
    intro QQ hb q
    refine m_isCopy e2 (by omega) ?_
    rw [z_no hb]
    exact m_goes_1 ⟨fun _ => q, fun c => absurd rfl c⟩
  rw [e1]
  rcases pk_ix x (n := m) (by omega) with hx | hx | ⟨i, hi, rfl⟩
  · exact x_needIndex_f (Or.inl hx) ⟨rfl, bad _ (Or.inl hx) (z_finE z_33 (by decide) (hI.go _))⟩
  · exact x_needIndex_f (Or.inr hx) ⟨rfl, bad _ (Or.inr hx) (z_finE z_33 (by decide) (hI.go _))⟩
  refine x_needIndex_t hi (by omega) ⟨vp_in_nI (by omega) (by omega), nm_e (nm_e ?_)⟩
  rw [nI_clamp (by omega)]
  refine m_isCopy e2 (by omega) ?_
  rw [z_yes hi (by omega)]
  refine m_goes_0 ⟨fun c => absurd c (by decide), fun _ => ⟨vp_in_nI (by omega) (by omega), z_fin0 z_33 ?_ (hI.go _)⟩⟩
  rw [nI_clamp (by omega), sx_u_n (by decide)]
  exact (C1 i hi).2.1
theorem k_owed {t : Nat} {f g : sx_F} {o : Nat → Int64} {x : Int32} (h : z_I t f g) : P_case_owed f g o x (z_I (t + 1)) := by
  have hI := h
  obtain ⟨S, R⟩ := h
  have hn := R.2.2.1.1
  obtain ⟨m, hm, e1, e2, C1, C2⟩ := R.2.2.2.2.2.2.1
  unfold P_case_owed P_L_owed P_X6_owed
  have bad : ∀ QQ : Int32 → sx_F → Prop, (x < 0 ∨ nI m ≤ x) → QQ 0 (sx_u g 0 33 1) → P_X7_owed g x QQ := by
    intro QQ hb q
    refine m_isCopy e2 (by omega) ?_
    rw [z_no hb]
    exact m_goes_1 ⟨fun _ => q, fun c => absurd rfl c⟩
  rw [e1]
  rcases pk_ix x (n := m) (by omega) with hx | hx | ⟨i, hi, rfl⟩
  · exact x_needIndex_f (Or.inl hx) ⟨rfl, bad _ (Or.inl hx) (z_finE z_33 (by decide) (hI.go _))⟩
  · exact x_needIndex_f (Or.inr hx) ⟨rfl, bad _ (Or.inr hx) (z_finE z_33 (by decide) (hI.go _))⟩
  obtain ⟨⟨a, ha, a1, a2⟩, a3, a4⟩ := C1 i hi
  refine x_needIndex_t hi (by omega) ⟨vp_in_nI (by omega) (by omega), nm_e ?_⟩
  rw [nI_clamp (by omega)]
  refine x_countDebts (n := S 0 0) R.1.1 hn a1 ha (nm_e ?_)
  refine m_isCopy e2 (by omega) ?_
  rw [z_yes hi (by omega)]
  refine m_goes_0 ⟨fun c => absurd c (by decide), fun _ => m_owedBy (n := S 0 0) (a := a) (by rw [sx_u_s, pk_un (by decide)]; exact R.2.1.1) hn (by omega) (by rw [sx_u_n (by decide)]; exact a2) ha (z_fin0 z_33 ?_ (hI.go _))⟩
  rw [(C1 i hi).cnt R ha hn]
  exact congrArg nI (z_cnt_c _ (fun b hb => by unfold z_owm; rw [sx_u_n (by decide), sx_u_n (by decide), sx_u_n (by decide)]))
theorem k_has {t : Nat} {f g : sx_F} {o : Nat → Int64} {x y : Int32} (h : z_I t f g) : P_case_has f g o x y (z_I (t + 1)) := by
  have hI := h
  obtain ⟨S, R⟩ := h
  have hn := R.2.2.1.1
  obtain ⟨m, hm, e1, e2, C1, C2⟩ := R.2.2.2.2.2.2.1
  unfold P_case_has P_L_has P_X6_has
  have bad : ∀ QQ : Int32 → sx_F → Prop, ((x < 0 ∨ nI m ≤ x) ∨ (y < 0 ∨ nI (S 0 0) ≤ y)) → QQ 0 (sx_u g 0 33 1) → P_X7_has g x y QQ := by
    intro QQ hb q B21 B22 h21 h22
    have k : B21 g := h21 _ (h22 _ _ (m_goes_1 ⟨fun _ => q, fun c => absurd rfl c⟩))
    refine m_isCopy e2 (by omega) ?_
    rcases z_b_cases (decide (¬ x < 0 ∧ ¬ nI m ≤ x)) with e | e
    · rw [e]; exact ⟨fun _ => k, fun c => absurd rfl c⟩
    · rw [e]
      refine ⟨fun c => absurd c (by decide), fun _ => m_isBar R.2.1.1 (by omega) ?_⟩
      rcases hb with hb | hb
      · rw [z_no hb] at e; exact absurd e (by decide)
      · rw [z_no hb]; exact ⟨fun _ => k, fun c => absurd rfl c⟩
  rw [e1, R.1.1]
  rcases pk_ix x (n := m) (by omega) with hx | hx | ⟨i, hi, rfl⟩
  · exact x_needIndex_f (Or.inl hx) ⟨rfl, bad _ (Or.inl (Or.inl hx)) (z_finE z_33 (by decide) (hI.go _))⟩
  · exact x_needIndex_f (Or.inr hx) ⟨rfl, bad _ (Or.inl (Or.inr hx)) (z_finE z_33 (by decide) (hI.go _))⟩
  refine x_needIndex_t hi (by omega) ?_
  rcases pk_ix y (n := S 0 0) (by omega) with hy | hy | ⟨b, hb, rfl⟩
  · exact x_needIndex_f (Or.inl hy) ⟨rfl, bad _ (Or.inr (Or.inl hy)) (z_finE z_33 (by decide) (hI.go _))⟩
  · exact x_needIndex_f (Or.inr hy) ⟨rfl, bad _ (Or.inr (Or.inr hy)) (z_finE z_33 (by decide) (hI.go _))⟩
  obtain ⟨⟨a, ha, a1, a2⟩, a3, a4⟩ := C1 i hi
  refine x_needIndex_t hb (by omega) ⟨vp_in_nI (by omega) (by omega), nm_e ?_⟩
  rw [nI_clamp (by omega)]
  refine x_versionOf a1 ha (by omega) (nm_e ?_)
  intro B21 B22 h21 h22
  refine m_isCopy e2 (by omega) ?_
  rw [z_yes hi (by omega)]
  refine ⟨fun c => absurd c (by decide), fun _ => m_isBar R.2.1.1 (by omega) ?_⟩
  rw [z_yes hb (by omega)]
  refine ⟨fun c => absurd c (by decide), fun _ => h22 _ _ (m_goes_0 ⟨fun c => absurd c (by decide), fun _ => ⟨vp_in_nI (by omega) (by omega), ?_⟩⟩)⟩
  rw [nI_clamp (n := i) (by omega), z_cell]
  simp (disch := decide) only [sx_u_n]
  rw [a2, a3]
  refine ⟨fun c => ⟨vp_in_nI (by omega) (by omega), m_cell ⟨vp_in_nI (by omega) (by omega), z_fin0T z_33 ?_ (hI.go _)⟩⟩, fun c => ⟨vp_in_nI (by omega) (by omega), z_fin0T z_33 ?_ (hI.go _)⟩⟩
  · rw [if_pos c, nI_clamp (by omega), (R.2.2.2.2.1 _ (by omega)).1]
  · rw [if_neg c, nI_clamp (by omega)]
    rcases a4 with z | z
    · exact absurd z c
    · exact z.2 b (by omega)
end
section
theorem x_deskHasPart {f : sx_F} {m d a : Nat} {Q : Int32 → Prop} (hm : f 0 5 = nI m) (hm16 : m ≤ 16) (h : Q (z_b (decide (¬ z_cnt (fun j => decide (f (66 + 2 * j) 2 = nI d ∧ f (66 + 2 * j) 1 = nI a)) m = 0)))) : P_X6_deskHasPart f (nI d) (nI a) Q := by
  intro B2 B38 h2 h38
  have key : z_cnt (fun j => decide (f (66 + 2 * j) 2 = nI d ∧ f (66 + 2 * j) 1 = nI a)) 0 = 0 → B2 (nI 0) := by
    refine z_up (B := fun k => z_cnt (fun j => decide (f (66 + 2 * j) 2 = nI d ∧ f (66 + 2 * j) 1 = nI a)) k = 0 → B2 (nI k)) m (fun k hk ih => ?_)
    intro h0
    refine h2 _ ?_
    rw [hm]
    refine pk_le m k (fun c => ?_) (fun c => ⟨vp_in_nI (by omega) (by omega), nm_e ?_⟩)
    · rw [show m = k by omega, h0] at h; exact h
    · rw [nI_clamp (by omega)]
      have go : ¬ (f (66 + 2 * k) 2 = nI d ∧ f (66 + 2 * k) 1 = nI a) → B38 (nI k) := fun z => h38 _ (nm_e (by
        rw [nI_1]
        refine ih c ?_
        show z_cnt _ k + (if decide (f (66 + 2 * k) 2 = nI d ∧ f (66 + 2 * k) 1 = nI a) then 1 else 0) = 0
        rw [h0, decide_eq_false z]; rfl))
      refine ⟨fun z1 => ⟨vp_in_nI (by omega) (by omega), nm_e ?_⟩, fun z1 => go (fun z => z1 z.1)⟩
      refine ⟨fun z2 => ?_, fun z2 => go (fun z => z2 z.2)⟩
      have nz : ¬ z_cnt (fun j => decide (f (66 + 2 * j) 2 = nI d ∧ f (66 + 2 * j) 1 = nI a)) m = 0 := fun z => by
        have e2 := (z_cnt_0 m).mp z k c
        simp only [decide_eq_false_iff_not] at e2
        exact e2 ⟨z1, z2⟩
      rw [decide_eq_true nz] at h
      exact h
  exact key rfl
theorem m_lend {g : sx_F} {m i d a : Nat} {QQ : Int32 → sx_F → Prop} (hm : g 0 11 = nI m) (hm16 : m ≤ 16) (hi : i < m) (hd : d < 6) (ha : g 6 i = nI a) (q2 : (¬ g 7 i = -1 ∨ ¬ z_cnt (fun j => decide (g 7 j = nI d ∧ g 6 j = nI a)) m = 0) → QQ 0 (sx_u g 0 33 2)) (q0 : g 7 i = -1 → z_cnt (fun j => decide (g 7 j = nI d ∧ g 6 j = nI a)) m = 0 → P_X7_renews (sx_u (sx_u g 0 33 0) 7 i (nI d)) (nI i) (fun g13 => P_X7_away g13 (fun r14 => QQ r14 g13))) : P_X7_lend g (nI i) (nI d) QQ := by
  intro B21 B22 B41 B42 B47 B92 B96 B97 B105 h21 h22 h41 h42 h47 h92 h96 h97 h105
  have go : B47 g 1 (z_b (decide (g 7 i = -1 ∧ z_cnt (fun j => decide (g 7 j = nI d ∧ g 6 j = nI a)) 0 = 0))) (nI 0) := by
    refine z_up (B := fun k => B47 g 1 (z_b (decide (g 7 i = -1 ∧ z_cnt (fun j => decide (g 7 j = nI d ∧ g 6 j = nI a)) k = 0))) (nI k)) m (fun k hk ih => h47 _ _ _ _ ?_)
    rw [hm]
    refine pk_le m k (fun c => h105 _ _ _ ?_) (fun c => ⟨fun z => absurd z (by decide), fun _ => ?_⟩)
    · rw [show k = m by omega]
      by_cases z : g 7 i = -1 ∧ z_cnt (fun j => decide (g 7 j = nI d ∧ g 6 j = nI a)) m = 0
      · rw [decide_eq_true z]
        refine m_goes_0 ⟨fun c => absurd c (by decide), fun _ => ⟨vp_in_nI (by omega) (by omega), nm_e ?_⟩⟩
        rw [nI_clamp (by omega)]
        exact q0 z.1 z.2
      · rw [decide_eq_false z]
        refine m_goes_2 ⟨fun _ => q2 ?_, fun c => absurd rfl c⟩
        by_cases z1 : g 7 i = -1
        · exact Or.inr (fun z2 => z ⟨z1, z2⟩)
        · exact Or.inl z1
    · have i2 : B47 g 1 (z_b (decide (g 7 i = -1 ∧ z_cnt (fun j => decide (g 7 j = nI d ∧ g 6 j = nI a)) k + (if decide (g 7 k = nI d ∧ g 6 k = nI a) then 1 else 0) = 0))) (nI (k + 1)) := ih c
      by_cases z : g 7 i = -1 ∧ z_cnt (fun j => decide (g 7 j = nI d ∧ g 6 j = nI a)) k = 0
      · rw [decide_eq_true z]
        refine ⟨fun z => absurd z (by decide), fun _ => ⟨vp_in_nI (by omega) (by omega), ?_⟩⟩
        rw [nI_clamp (n := k) (by omega), nI_clamp (by omega), ha]
        rw [z.2] at i2
        have b0 : ¬ (g 7 k = nI d ∧ g 6 k = nI a) → B92 g 1 (nI k) := fun y => by
          rw [decide_eq_false y] at i2
          rw [decide_eq_true (show g 7 i = -1 ∧ 0 + (if false = true then 1 else 0) = 0 from ⟨z.1, rfl⟩)] at i2
          exact h92 _ _ _ (h97 _ _ _ _ (nm_e (by rw [nI_1]; exact i2)))
        refine ⟨fun z1 => ⟨vp_in_nI (by omega) (by omega), vp_in_nI (by omega) (by omega), fun z2 => ?_, fun z2 => b0 (fun y => z2 y.2)⟩, fun z1 => b0 (fun y => z1 y.1)⟩
        rw [decide_eq_true (show g 7 k = nI d ∧ g 6 k = nI a from ⟨z1, z2⟩)] at i2
        rw [decide_eq_false (fun y => absurd y.2 (by simp))] at i2
        exact h96 _ _ _ (h97 _ _ _ _ (nm_e (by rw [nI_1]; exact i2)))
      · rw [decide_eq_false z]
        rw [decide_eq_false (fun y => z ⟨y.1, by omega⟩)] at i2
        exact ⟨fun _ => h96 _ _ _ (h97 _ _ _ _ (nm_e (by rw [nI_1]; exact i2))), fun y => absurd rfl y⟩
  refine m_isCopy hm (by omega) ?_
  rw [z_yes hi (by omega)]
  refine ⟨fun c => absurd c (by decide), fun _ => m_in_t (nI_pos (by omega)) (nI_nlt (a := 5) (b := d) (by omega) (by omega)) ⟨fun c => absurd c (by decide), fun _ => h22 _ _ ⟨fun c => absurd c (by decide), fun _ => ⟨vp_in_nI (by omega) (by omega), ?_⟩⟩⟩⟩
  rw [nI_clamp (by omega)]
  by_cases z : g 7 i = -1
  · rw [decide_eq_true (show g 7 i = -1 ∧ z_cnt (fun j => decide (g 7 j = nI d ∧ g 6 j = nI a)) 0 = 0 from ⟨z, rfl⟩)] at go
    exact ⟨fun _ => h42 _ _ _ go, fun c => absurd z c⟩
  · rw [decide_eq_false (fun y => z y.1)] at go
    exact ⟨fun c => absurd c z, fun _ => h41 _ _ (h42 _ _ _ go)⟩
theorem k_lend {t : Nat} {f g : sx_F} {o : Nat → Int64} {x y : Int32} (h : z_I t f g) : P_case_lend f g o x y (z_I (t + 1)) := by
  have hI := h
  obtain ⟨S, R⟩ := h
  have hn := R.2.2.1.1
  obtain ⟨m, hm, e1, e2, C1, C2⟩ := R.2.2.2.2.2.2.1
  unfold P_case_lend P_L_lend P_X6_lend
  have bad : ∀ QQ : Int32 → sx_F → Prop, ((x < 0 ∨ nI m ≤ x) ∨ (y < 0 ∨ nI 6 ≤ y)) → QQ 0 (sx_u g 0 33 1) → P_X7_lend g x y QQ := by
    intro QQ hb q B21 B22 B41 B42 B47 B92 B96 B97 B105 h21 h22 h41 h42 h47 h92 h96 h97 h105
    have k105 : ∀ z, B105 g 0 z := fun z => h105 _ _ _ (m_goes_1 ⟨fun _ => q, fun c => absurd rfl c⟩)
    have k : B21 g := h21 _ (h22 _ _ ⟨fun _ => h41 _ _ (h42 _ _ _ (h47 _ _ _ _ ⟨fun _ => k105 0, fun _ => ⟨fun _ => k105 0, fun c => absurd rfl c⟩⟩)), fun c => absurd rfl c⟩)
    refine m_isCopy e2 (by omega) ?_
    rcases z_b_cases (decide (¬ x < 0 ∧ ¬ nI m ≤ x)) with e | e
    · rw [e]; exact ⟨fun _ => k, fun c => absurd rfl c⟩
    · rw [e]
      refine ⟨fun c => absurd c (by decide), fun _ => ?_⟩
      rcases hb with hb | hb
      · rw [z_no hb] at e; exact absurd e (by decide)
      · refine m_in_f ?_ ⟨fun _ => k, fun c => absurd rfl c⟩
        rcases hb with hb | hb
        · exact Or.inl hb
        · exact Or.inr ((z_pred y (n := 6) (by omega)).mpr hb)
  rw [e1]
  rcases pk_ix x (n := m) (by omega) with hx | hx | ⟨i, hi, rfl⟩
  · exact x_needIndex_f (Or.inl hx) (Or.inl ⟨rfl, bad _ (Or.inl (Or.inl hx)) (z_finE z_33 (by decide) (hI.go _))⟩)
  · exact x_needIndex_f (Or.inr hx) (Or.inl ⟨rfl, bad _ (Or.inl (Or.inr hx)) (z_finE z_33 (by decide) (hI.go _))⟩)
  refine x_needIndex_t hi (by omega) ?_
  rcases pk_ix y (n := 6) (by omega) with hy | hy | ⟨d, hd, rfl⟩
  · exact x_needIndex_f (Or.inl hy) (Or.inl ⟨rfl, bad _ (Or.inr (Or.inl hy)) (z_finE z_33 (by decide) (hI.go _))⟩)
  · exact x_needIndex_f (Or.inr hy) (Or.inl ⟨rfl, bad _ (Or.inr (Or.inr hy)) (z_finE z_33 (by decide) (hI.go _))⟩)
  obtain ⟨⟨a, ha, a1, a2⟩, a3, a4⟩ := C1 i hi
  refine x_needIndex_t (n := 6) hd (by omega) ⟨vp_in_nI (by omega) (by omega), nm_e ?_⟩
  rw [nI_clamp (by omega)]
  have hcn : z_cnt (fun j => decide (f (66 + 2 * j) 2 = nI d ∧ f (66 + 2 * j) 1 = nI a)) m = z_cnt (fun j => decide (g 7 j = nI d ∧ g 6 j = nI a)) m := z_cnt_c m (fun j hj => by
    obtain ⟨⟨b, hb, b1, b2⟩, b3, -⟩ := C1 j hj
    rw [b3, b1, b2])
  refine x_isOut ?_
  by_cases c : f (66 + 2 * i) 2 = -1
  · have cg : g 7 i = -1 := by rw [← a3]; exact c
    rw [decide_eq_false (fun z => z c)]
    refine ⟨fun _ => ?_, fun z => absurd rfl z⟩
    rw [a1]
    refine x_deskHasPart e1 hm ?_
    rw [hcn]
    by_cases cc : z_cnt (fun j => decide (g 7 j = nI d ∧ g 6 j = nI a)) m = 0
    · rw [decide_eq_false (fun z => z cc)]
      refine ⟨fun _ => nm_e (x_takeVersions (n := S 0 0) (a := a) (by omega) (by rw [sx_u_n (by omega)]; exact R.1.1) hn (by rw [sx_u_s, pk_un (by decide)]; exact a1) ha (fun f' b1 b2 => ?_)), fun z => absurd rfl z⟩
      have b0 : f' 0 = f 0 := by rw [b1 0 (by omega), sx_u_n (by omega)]
      refine x_copiesOut (m := m) (by rw [b0]; exact e1) hm (nm_e (m_lend e2 hm hi hd a2 (fun z => absurd z (fun z => z.elim (fun z => z cg) (fun z => z cc))) (fun _ _ => ?_)))
      refine m_renews (n := S 0 0) (a := a) (by rw [sx_u_n (by decide), sx_u_s, pk_un (by decide)]; exact R.2.1.1) hn (by omega) (by rw [sx_u_n (by decide), sx_u_n (by decide)]; exact a2) ha (fun g' d1 d2 d3 => ?_)
      have d0 : ∀ j, j ≠ 33 → g' 0 j = g 0 j := fun j hj => by rw [d1 0 (by decide), sx_u_n (by decide), sx_u_s, pk_un hj]
      have dk : ∀ k, k ≠ 8 → k ≠ 7 → k ≠ 0 → g' k = g k := fun k h1 h2 h3 => by rw [d1 k h1, sx_u_n h2, sx_u_n h3]
      have d7 : g' 7 = upd (g 7) i (nI d) := by rw [d1 7 (by decide), sx_u_s, sx_u_n (by decide)]
      have fd : ∀ j, j < m → f' (66 + 2 * j) 2 = g' 7 j := fun j hj => by
        rw [b1 _ (by omega), d7]
        by_cases e : j = i
        · subst e; rw [sx_u_s, pk_us, pk_us]
        · rw [sx_u_n (by omega), pk_un e]; exact (C1 j hj).2.1
      refine m_away (m := m) (by rw [d0 11 (by decide)]; exact e2) hm (z_fin0 (by rw [d1 0 (by decide), sx_u_n (by decide)]; exact z_33) ?_ ⟨S, R.cp ?_ ?_ ?_ ⟨m, hm, by rw [b0]; exact e1, by rw [d0 11 (by decide)]; exact e2, fun j hj => ?_, fun j hj hj2 => ?_⟩ ?_⟩)
      · exact congrArg nI (z_out_eq fd)
      · intro k hk; rw [b1 k (by omega), sx_u_n (by omega)]
      · intro k hk; exact dk k (by omega) (by omega) (by omega)
      · intro j hj; exact d0 j (by omega)
      · by_cases e : j = i
        · subst e
          exact z_C1.taken R ha (by rw [b1 _ (by omega), sx_u_s, pk_un (by decide)]; exact a1) (by rw [dk 6 (by decide) (by decide) (by decide)]; exact a2) (fd j hj) ⟨d, hd, by rw [d7, pk_us]⟩ (fun k hk => by rw [b2 k hk, sx_u_n (by omega)]) (fun k hk => by rw [d3 k hk, sx_u_n (by decide), sx_u_n (by decide)])
        · have hc := C1 j hj
          unfold z_C1 at hc
          refine ⟨?_, fd j hj, ?_⟩
          · rw [b1 _ (by omega), sx_u_n (by omega), dk 6 (by decide) (by decide) (by decide)]; exact hc.1
          · rw [d7, pk_un e]
            refine hc.2.2.imp id (fun z => ⟨z.1, fun k hk => ?_⟩)
            rw [d2 _ (by omega), b1 _ (by omega), sx_u_n (by omega), sx_u_n (by decide), sx_u_n (by decide)]
            exact z.2 k hk
      · rw [b1 _ (by omega), sx_u_n (by omega)]; exact C2 j hj hj2
      · rw [b0, d0 12 (by decide)]
        exact R.2.2.2.2.2.2.2.1
    · rw [decide_eq_true cc]
      exact ⟨fun z => absurd z (by decide), fun _ => Or.inr ⟨rfl, m_lend e2 hm hi hd a2 (fun _ => z_finE z_33 (by decide) (hI.go _)) (fun _ z => absurd z cc)⟩⟩
  · have cg : ¬ g 7 i = -1 := by rw [← a3]; exact c
    rw [decide_eq_true c]
    exact ⟨fun z => absurd z (by decide), fun _ => Or.inr ⟨rfl, m_lend e2 hm hi hd a2 (fun _ => z_finE z_33 (by decide) (hI.go _)) (fun z _ => absurd z cg)⟩⟩
theorem x_anyCopyOwes {t : Nat} {f g : sx_F} {S : z_S} {m : Nat} {Q : Int32 → Prop} (R : z_R t f g S) (hm : f 0 5 = nI m) (hm16 : m ≤ 16) (C1 : ∀ i, i < m → z_C1 f g i) (q1 : (∃ i a, i < m ∧ a < 5 ∧ g 6 i = nI a ∧ ¬ z_cnt (z_owm g i a) (S 0 0) = 0) → Q 1) (q0 : (∀ i a, i < m → a < 5 → g 6 i = nI a → z_cnt (z_owm g i a) (S 0 0) = 0) → Q 0) : P_X6_anyCopyOwes f Q := by
  have hn := R.2.2.1.1
  intro B2 h2
  have key : (∀ i a, i < 0 → a < 5 → g 6 i = nI a → z_cnt (z_owm g i a) (S 0 0) = 0) → B2 (nI 0) := by
    refine z_up (B := fun k => (∀ i a, i < k → a < 5 → g 6 i = nI a → z_cnt (z_owm g i a) (S 0 0) = 0) → B2 (nI k)) m (fun k hk ih => ?_)
    intro h0
    refine h2 _ ?_
    rw [hm]
    refine pk_le m k (fun c => ?_) (fun c => ⟨vp_in_nI (by omega) (by omega), nm_e ?_⟩)
    · rw [show k = m by omega] at h0; exact q0 h0
    · rw [nI_clamp (by omega)]
      obtain ⟨⟨a, ha, a1, a2⟩, a3, a4⟩ := C1 k c
      refine x_countDebts (n := S 0 0) R.1.1 hn a1 ha ?_
      rw [(C1 k c).cnt R ha hn]
      have hle := z_cnt_le (p := z_owm g k a) (S 0 0)
      refine pk_le (z_cnt (z_owm g k a) (S 0 0)) 0 (fun c1 => nm_e ?_) (fun c1 => q1 ⟨k, a, c, ha, a2, by omega⟩)
      rw [nI_1]
      refine ih c (fun i b hi hb hb2 => ?_)
      by_cases e : i = k
      · subst e
        have : a = b := (nI_eq (by omega) (by omega)).mp (a2.symm.trans hb2)
        subst this
        omega
      · exact h0 i b (by omega) hb hb2
  exact key (fun i a hi => absurd hi (by omega))
theorem m_play {g : sx_F} {n m : Nat} {QQ : Int32 → sx_F → Prop} (hn : g 0 5 = nI n) (hn12 : n ≤ 12) (hm : g 0 11 = nI m) (hm16 : m ≤ 16) (hA : ∀ i, i < m → ∃ a, a < 5 ∧ g 6 i = nI a) (q1 : (z_cnt (fun i => decide (¬ g 7 i = -1)) m = 0 ∨ ∃ i a, i < m ∧ a < 5 ∧ g 6 i = nI a ∧ ¬ z_cnt (z_owm g i a) n = 0) → QQ 0 (sx_u g 0 33 1)) (q0 : ¬ z_cnt (fun i => decide (¬ g 7 i = -1)) m = 0 → (∀ i a, i < m → a < 5 → g 6 i = nI a → z_cnt (z_owm g i a) n = 0) → QQ (nI (z_cnt (fun i => decide (¬ g 7 i = -1)) m)) (sx_u (sx_u g 0 33 0) 0 12 (g 0 12 + 1))) : P_X7_play g QQ := by
  intro B12 B15 B39 B40 h12 h15 h39 h40
  have hle := z_cnt_le (p := fun i => decide (¬ g 7 i = -1)) m
  have go0 : QQ 0 (sx_u g 0 33 1) → ∀ d k, k + d = m → B15 g 0 (nI k) := by
    intro q d
    induction d with
    | zero =>
      intro k hk
      refine h15 _ _ _ ?_
      rw [hm]
      exact pk_le m k (fun c => m_goes_1 ⟨fun _ => q, fun c => absurd rfl c⟩) (fun c => absurd c (by omega))
    | succ d ih =>
      intro k hk
      refine h15 _ _ _ ?_
      rw [hm]
      exact pk_le m k (fun c => absurd c (by omega)) (fun c => ⟨fun _ => h39 _ _ (h40 _ _ _ (nm_e (by rw [nI_1]; exact ih (k + 1) (by omega)))), fun c => absurd rfl c⟩)
  refine m_away hm hm16 (pk_le (z_cnt (fun i => decide (¬ g 7 i = -1)) m) 0 (fun c => h12 _ _ (go0 (q1 (Or.inl (by omega))) m 0 (by omega))) (fun c => h12 _ _ ?_))
  have go : (∀ i a, i < 0 → a < 5 → g 6 i = nI a → z_cnt (z_owm g i a) n = 0) → B15 g 1 (nI 0) := by
    refine z_up (B := fun k => (∀ i a, i < k → a < 5 → g 6 i = nI a → z_cnt (z_owm g i a) n = 0) → B15 g 1 (nI k)) m (fun k hk ih => ?_)
    intro h0
    refine h15 _ _ _ ?_
    rw [hm]
    refine pk_le m k (fun c1 => m_goes_0 ⟨fun z => absurd z (by decide), fun _ => nm_e ?_⟩) (fun c1 => ⟨fun z => absurd z (by decide), fun _ => ?_⟩)
    · rw [show (sx_u g 0 33 0) 0 12 = g 0 12 by rw [sx_u_s, pk_un (by decide)]]
      refine m_away (m := m) (by rw [sx_u_s, pk_un (by decide), sx_u_s, pk_un (by decide)]; exact hm) hm16 ?_
      rw [show k = m by omega] at h0
      have q := q0 (by omega) h0
      rw [show (sx_u (sx_u g 0 33 0) 0 12 (g 0 12 + 1)) 7 = g 7 by rw [sx_u_n (by decide), sx_u_n (by decide)]]
      exact q
    · obtain ⟨a, ha, a2⟩ := hA k c1
      refine m_owedBy (n := n) hn hn12 (by omega) a2 ha ?_
      have hle := z_cnt_le (p := z_owm g k a) n
      refine pk_eq _ 0 (fun c2 => h40 _ _ _ (nm_e ?_)) (fun c2 => h39 _ _ (h40 _ _ _ (nm_e ?_)))
      · rw [nI_1]
        refine ih c1 (fun i b hi hb hb2 => ?_)
        by_cases e : i = k
        · subst e
          have : a = b := (nI_eq (by omega) (by omega)).mp (a2.symm.trans hb2)
          subst this
          exact c2
        · exact h0 i b (by omega) hb hb2
      · rw [nI_1]
        exact go0 (q1 (Or.inr ⟨k, a, c1, ha, a2, c2⟩)) (m - (k + 1)) (k + 1) (by omega)
  exact go (fun i a hi => absurd hi (by omega))
theorem k_play {t : Nat} {f g : sx_F} {o : Nat → Int64} (h : z_I t f g) : P_case_play f g o (z_I (t + 1)) := by
  have hI := h
  obtain ⟨S, R⟩ := h
  have hn := R.2.2.1.1
  obtain ⟨m, hm, e1, e2, C1, C2⟩ := R.2.2.2.2.2.2.1
  unfold P_case_play P_L_play P_X6_play
  have hA : ∀ i, i < m → ∃ a, a < 5 ∧ g 6 i = nI a := fun i hi => by
    obtain ⟨⟨a, ha, a1, a2⟩, -⟩ := C1 i hi
    exact ⟨a, ha, a2⟩
  have ho := z_out_eq (f := f) (g := g) (m := m) (fun i hi => (C1 i hi).2.1)
  have hle := z_cnt_le (p := fun i => decide (¬ g 7 i = -1)) m
  refine x_copiesOut e1 hm ?_
  rw [ho]
  refine pk_eq _ 0 (fun c => ⟨rfl, m_play R.2.1.1 hn e2 hm hA (fun _ => z_finE z_33 (by decide) (hI.go _)) (fun z => absurd c z)⟩) (fun c => x_anyCopyOwes R e1 hm C1 (fun q => ?_) (fun q => ?_))
  · exact ⟨fun z => absurd z (by decide), fun _ => ⟨rfl, m_play R.2.1.1 hn e2 hm hA (fun _ => z_finE z_33 (by decide) (hI.go _)) (fun _ z => by
      obtain ⟨i, a, hi, ha, b1, b2⟩ := q
      exact absurd (z i a hi ha b1) b2)⟩⟩
  · refine ⟨fun _ => nm_e (nm_e (m_play R.2.1.1 hn e2 hm hA (fun z => ?_) (fun _ _ => z_fin0 (by rw [sx_u_s, pk_un (by decide)]; exact z_33) rfl ⟨S, R.cp ?_ ?_ ?_ (R.2.2.2.2.2.2.1.sc ?_ ?_ ?_ ?_ ?_ ?_) ?_⟩))), fun z => absurd rfl z⟩
    · rcases z with z | ⟨i, a, hi, ha, b1, b2⟩
      · exact absurd z c
      · exact absurd (q i a hi ha b1) b2
    · intro k hk; rw [sx_u_n (by omega)]
    · intro k hk; rw [sx_u_n (by omega), sx_u_n (by omega)]
    · intro j hj; rw [sx_u_s, pk_un (by omega), sx_u_s, pk_un (by omega)]
    · intro k hk; rw [sx_u_n (by omega)]
    · rw [sx_u_s, pk_un (by decide)]
    · rw [sx_u_s, pk_un (by decide), sx_u_s, pk_un (by decide)]
    · rw [sx_u_n (by decide), sx_u_n (by decide)]
    · rw [sx_u_n (by decide), sx_u_n (by decide)]
    · rw [sx_u_n (by decide), sx_u_n (by decide)]
    · rw [sx_u_s, pk_us, sx_u_s, pk_us, R.2.2.2.2.2.2.2.1]
end
section
def z_put (x a : Int32) (k : Nat) : Int32 := (x &&& ((3 <<< ((2 * nI k) &&& 31)) ^^^ (-1))) ||| (a <<< ((2 * nI k) &&& 31))
theorem z_c8 {P : Nat → Prop} (h0 : P 0) (h1 : P 1) (h2 : P 2) (h3 : P 3) (h4 : P 4) (h5 : P 5) (h6 : P 6) (h7 : P 7) {k : Nat} (hk : k < 8) : P k := by
  rcases (show k = 0 ∨ k = 1 ∨ k = 2 ∨ k = 3 ∨ k = 4 ∨ k = 5 ∨ k = 6 ∨ k = 7 by omega) with rfl | rfl | rfl | rfl | rfl | rfl | rfl | rfl <;> assumption
theorem z_sh {k : Nat} (hk : k < 8) : ((((2 * nI k) &&& 31) : Int32).toBitVec.smod 32).toNat = 2 * k :=
  z_c8 (P := fun k => ((((2 * nI k) &&& 31) : Int32).toBitVec.smod 32).toNat = 2 * k) (by decide) (by decide) (by decide) (by decide) (by decide) (by decide) (by decide) (by decide) hk
theorem z_bit_v (x : Int32) {k : Nat} (hk : k < 8) : (z_bit x k).toBitVec = x.toBitVec.sshiftRight (2 * k) &&& 3#32 := by
  unfold z_bit
  rw [Int32.toBitVec_and, Int32.toBitVec_shiftRight]
  show x.toBitVec.sshiftRight (((((2 * nI k) &&& 31) : Int32).toBitVec.smod 32).toNat) &&& _ = _
  rw [z_sh hk]
  rfl
theorem z_put_v (x a : Int32) {k : Nat} (hk : k < 8) : (z_put x a k).toBitVec = (x.toBitVec &&& ((3#32 <<< (2 * k)) ^^^ (-1#32))) ||| (a.toBitVec <<< (2 * k)) := by
  unfold z_put
  rw [Int32.toBitVec_or, Int32.toBitVec_and, Int32.toBitVec_xor, Int32.toBitVec_shiftLeft, Int32.toBitVec_shiftLeft]
  show (x.toBitVec &&& ((3#32 <<< (((((2 * nI k) &&& 31) : Int32).toBitVec.smod 32).toNat)) ^^^ _)) ||| (a.toBitVec <<< (((((2 * nI k) &&& 31) : Int32).toBitVec.smod 32).toNat)) = _
  rw [z_sh hk]
  rfl
theorem z_3bit (n : Nat) : (3#32).getLsbD n = decide (n < 2) := by
  by_cases h : n < 2
  · rcases (show n = 0 ∨ n = 1 by omega) with rfl | rfl <;> rfl
  · rw [decide_eq_false h]
    exact (BitVec.getLsbD_ofNat 32 3 n).trans (by rw [Nat.testBit_lt_two_pow (Nat.lt_of_lt_of_le (by decide : 3 < 2 ^ 2) (Nat.pow_le_pow_right (by decide) (by omega)))]; simp)
theorem z_bit_0 {k : Nat} (hk : k < 8) : z_bit 0 k = 0 := by
  apply Int32.toBitVec_inj.mp
  rw [z_bit_v 0 hk]
  simp
theorem z_abit {a n : Nat} (ha : a ≤ 2) (hn : 2 ≤ n) : (nI a).toBitVec.getLsbD n = false := by
  show (BitVec.ofNat 32 a).getLsbD n = false
  rw [BitVec.getLsbD_ofNat, Nat.testBit_lt_two_pow (Nat.lt_of_lt_of_le (by omega : a < 2 ^ 2) (Nat.pow_le_pow_right (by decide) hn))]
  simp
theorem z_ones {n : Nat} (hn : n < 32) : (-1#32).getLsbD n = true := by
  rw [show (-1#32) = BitVec.allOnes 32 by decide, BitVec.getLsbD_allOnes, decide_eq_true hn]
theorem z_put_b (x : Int32) {a k n : Nat} (hk : k < 8) (hn : n < 32) : (z_put x (nI a) k).toBitVec.getLsbD n = ((x.toBitVec.getLsbD n && ((!decide (n < 2 * k) && decide (n - 2 * k < 2)) ^^ true)) || (!decide (n < 2 * k) && (nI a).toBitVec.getLsbD (n - 2 * k))) := by
  rw [z_put_v _ _ hk, BitVec.getLsbD_or, BitVec.getLsbD_and, BitVec.getLsbD_xor, z_ones hn, BitVec.getLsbD_shiftLeft, BitVec.getLsbD_shiftLeft, z_3bit, decide_eq_true hn, Bool.true_and]
theorem z_bit_b (x : Int32) {k i : Nat} (hk : k < 8) (hi : i < 2) : (z_bit x k).toBitVec.getLsbD i = x.toBitVec.getLsbD (2 * k + i) := by
  rw [z_bit_v _ hk, BitVec.getLsbD_and, z_3bit, decide_eq_true hi, Bool.and_true, BitVec.getLsbD_sshiftRight, if_pos (by omega), decide_eq_false (by omega)]
  rfl
theorem z_bit_h (x : Int32) {k i : Nat} (hk : k < 8) (hi : ¬ i < 2) : (z_bit x k).toBitVec.getLsbD i = false := by
  rw [z_bit_v _ hk, BitVec.getLsbD_and, z_3bit, decide_eq_false hi, Bool.and_false]
theorem z_bit_s {x : Int32} {a k : Nat} (hk : k < 8) (ha : a ≤ 2) : z_bit (z_put x (nI a) k) k = nI a := by
  apply Int32.toBitVec_inj.mp
  apply BitVec.eq_of_getLsbD_eq
  intro i hi
  by_cases h : i < 2
  · rw [z_bit_b _ hk h, z_put_b _ hk (by omega), decide_eq_false (by omega), decide_eq_true (by omega), show 2 * k + i - 2 * k = i by omega]
    simp
  · rw [z_bit_h _ hk h, z_abit ha (by omega)]
theorem z_bit_n {x : Int32} {a k j : Nat} (hk : k < 8) (hj : j < 8) (n : j ≠ k) (ha : a ≤ 2) : z_bit (z_put x (nI a) k) j = z_bit x j := by
  apply Int32.toBitVec_inj.mp
  apply BitVec.eq_of_getLsbD_eq
  intro i hi
  by_cases h : i < 2
  · rw [z_bit_b _ hj h, z_bit_b _ hj h, z_put_b _ hk (by omega)]
    by_cases c : 2 * j + i < 2 * k
    · rw [decide_eq_true c]
      simp
    · rw [decide_eq_false c, decide_eq_false (by omega), z_abit ha (by omega)]
      simp
  · rw [z_bit_h _ hj h, z_bit_h _ hj h]
end
section
theorem z_R.dk {t : Nat} {f g f' g' : sx_F} {S : z_S} (R : z_R t f g S) (hf : ∀ k, k < 99 → f' k = f k) (hg : ∀ k, (1 ≤ k ∧ k ≤ 8) → g' k = g k) (hg0 : ∀ j, j ≠ 33 → g' 0 j = g 0 j) (hD : z_D (t + 1) f' g') : z_R (t + 1) f' g' S := by
  obtain ⟨R1, R2, R3, R4, R5, R6, R7, R8, R9⟩ := R.mono
  refine ⟨?_, ?_, R3, ?_, ?_, ?_, ?_, ?_, hD⟩
  · unfold z_X at R1 ⊢
    simp (disch := omega) only [hf]
    exact R1
  · unfold z_M at R2 ⊢
    simp (disch := omega) only [hg, hg0]
    exact R2
  · unfold z_T at R4 ⊢
    simp (disch := omega) only [hf]
    exact R4
  · unfold z_V at R5 ⊢
    simp (disch := omega) only [hf, hg]
    exact R5
  · unfold z_P at R6 ⊢
    simp (disch := omega) only [hf, hg0]
    exact R6
  · obtain ⟨m, hm, e1, e2, C1, C2⟩ := R7
    refine ⟨m, hm, by rw [hf 0 (by omega)]; exact e1, by rw [hg0 11 (by decide)]; exact e2, fun i hi => ?_, fun i hi hi2 => by rw [hf _ (by omega)]; exact C2 i hi hi2⟩
    have hc := C1 i hi
    unfold z_C1 at hc ⊢
    rw [hf _ (by omega), hf _ (by omega), hg 6 (by decide), hg 7 (by decide), hg 8 (by decide)]
    exact hc
  · rw [hf 0 (by omega), hg0 12 (by decide)]; exact R8
def z_bX (f : sx_F) (d s k : Nat) : Int32 := if f (99 + 5 * d + 4) s = f 4 s then z_bit (f (99 + 5 * d + 3) s) k else 0
def z_bM (g : sx_F) (d s k : Nat) : Int32 := if g 12 (8 * (60 * d + s) + k) = g 5 s then g 11 (8 * (60 * d + s) + k) else 0
theorem z_bXM {t : Nat} {f g : sx_F} {S : z_S} (ht : t < 1000000) (R : z_R t f g S) {d s k : Nat} (hd : d < 6) (hs : s < 60) (hk : k < 8) : z_bX f d s k = z_bM g d s k ∧ ∃ a, a ≤ 2 ∧ z_bM g d s k = nI a := by
  obtain ⟨-, e, v, he, hv, b1, b2, b3⟩ := R.2.2.2.2.2.2.2.2 d s hd hs
  obtain ⟨a, c, ha, hc, c1, c2, c3⟩ := b3 k hk
  have hver := (R.2.2.2.2.1 s hs).1
  unfold z_bX z_bM
  rw [hver, b1, b2, c1, c2]
  have i1 : (nI e = nI v) ↔ e = v := nI_eq (by omega) (by omega)
  have i2 : (nI c = nI v) ↔ c = v := nI_eq (by omega) (by omega)
  refine ⟨?_, ?_⟩
  · simp only [i1, i2]
    exact c3
  · by_cases z : c = v
    · exact ⟨a, ha, by rw [if_pos (i2.mpr z)]⟩
    · exact ⟨0, by omega, by rw [if_neg (fun y => z (i2.mp y))]; rfl⟩
theorem x_bowingAt {f : sx_F} {d s k : Nat} {Q : Int32 → Prop} (hs : s < 60) (h : Q (z_bX f d s k)) : P_X2_bowingAt f (99 + 5 * d) (nI s) (nI k) (f 4 s) Q := by
  unfold P_X2_bowingAt
  rw [nI_clamp (by omega)]
  unfold z_bX at h
  refine ⟨vp_in_nI (by omega) (by omega), fun c => ⟨vp_in_nI (by omega) (by omega), ?_⟩, fun c => ?_⟩
  · rw [if_pos c] at h; exact h
  · rw [if_neg c] at h; exact h
theorem z_at3 (d s k : Nat) : 8 * (60 * nI d + nI s) + nI k = nI (8 * (60 * d + s) + k) := by
  rw [z_l8, z_l60, pk_mul, nI_add, pk_mul, nI_add]
theorem z_at2 (d s : Nat) : 60 * nI d + nI s = nI (60 * d + s) := by
  rw [z_l60, pk_mul, nI_add]
theorem m_bowing {g : sx_F} {d s k : Nat} {Q : Int32 → Prop} (hd : d < 6) (hs : s < 60) (hk : k < 8) (h : Q (z_bM g d s k)) : P_X7_bowing g (nI d) (nI s) (nI k) Q := by
  unfold P_X7_bowing
  rw [z_at3]
  refine nm_e ⟨vp_in_nI (by omega) (by omega), vp_in_nI (by omega) (by omega), ?_⟩
  rw [nI_clamp (by omega), nI_clamp (by omega)]
  unfold z_bM at h
  refine ⟨fun c => ⟨vp_in_nI (by omega) (by omega), ?_⟩, fun c => ?_⟩
  · rw [if_pos c] at h; exact h
  · rw [if_neg c] at h; exact h
theorem k_markOf {t : Nat} {f g : sx_F} {o : Nat → Int64} {x y w : Int32} (h : z_I t f g) : P_case_markOf f g o x y w (z_I (t + 1)) := by
  have hI := h
  obtain ⟨S, R⟩ := h
  have hn := R.2.2.1.1
  unfold P_case_markOf P_L_markOf P_X6_markOf
  have bad : ∀ QQ : Int32 → sx_F → Prop, ((x < 0 ∨ nI 6 ≤ x) ∨ ((y < 0 ∨ nI 5 ≤ y) ∨ (w < 0 ∨ nI (S 0 0) ≤ w))) → QQ 0 (sx_u g 0 33 1) → P_X7_markOf g x y w QQ := by
    intro QQ hb q B28 B29 h28 h29
    have k : B28 g := h28 _ (h29 _ _ (m_goes_1 ⟨fun _ => q, fun c => absurd rfl c⟩))
    by_cases c : x < 0 ∨ 5 < x
    · exact m_in_f c ⟨fun _ => k, fun c => absurd rfl c⟩
    · refine m_in_t (fun z => c (Or.inl z)) (fun z => c (Or.inr z)) ⟨fun c => absurd c (by decide), fun _ => ?_⟩
      rcases hb with hb | hb
      · rcases hb with hb | hb
        · exact absurd (Or.inl hb) c
        · exact absurd (Or.inr ((z_pred x (n := 6) (by omega)).mpr hb)) c
      · exact m_pair_f R.2.1 R.2.2.1 hb k
  rcases pk_ix x (n := 6) (by omega) with hx | hx | ⟨d, hd, rfl⟩
  · exact x_needIndex_f (Or.inl hx) ⟨rfl, bad _ (Or.inl (Or.inl hx)) (z_finE z_33 (by decide) (hI.go _))⟩
  · exact x_needIndex_f (Or.inr hx) ⟨rfl, bad _ (Or.inl (Or.inr hx)) (z_finE z_33 (by decide) (hI.go _))⟩
  refine x_needIndex_t (n := 6) hd (by omega) ⟨vp_in_nI (by omega) (by omega), nm_e ?_⟩
  rw [nI_clamp (by omega)]
  rcases z_pair y w (a := 5) (n := S 0 0) (by omega) (by omega) with hbad | ⟨i, b, hi, hb, rfl, rfl⟩
  · exact x_needSlot_f R.1 hbad ⟨rfl, bad _ (Or.inr hbad) (z_finE z_33 (by decide) (hI.go _))⟩
  refine x_needSlot_t R.1 R.2.2.1 hi hb ⟨vp_in_nI (by omega) (by omega), nm_e ?_⟩
  rw [nI_clamp (by omega)]
  intro B28 B29 h28 h29
  refine m_in_t (nI_pos (by omega)) (nI_nlt (a := 5) (b := d) (by omega) (by omega)) ⟨fun c => absurd c (by decide), fun _ => m_pair_t R.2.1 R.2.2.1 hi hb (h29 _ _ (m_goes_0 ⟨fun c => absurd c (by decide), fun _ => m_cell ?_⟩))⟩
  rw [z_at2, nI_clamp (by omega)]
  refine ⟨vp_in_nI (by omega) (by omega), z_fin0 z_33 ?_ (hI.go _)⟩
  rw [sx_u_n (by decide)]
  obtain ⟨⟨⟨a, ha, a1, a2⟩, -⟩, -⟩ := R.2.2.2.2.2.2.2.2 d (12 * i + b) hd (by omega)
  rw [a1, a2]
theorem k_oldMarks {t : Nat} {f g : sx_F} {o : Nat → Int64} {x : Int32} (h : z_I t f g) : P_case_oldMarks f g o x (z_I (t + 1)) := by
  have hI := h
  obtain ⟨S, R⟩ := h
  unfold P_case_oldMarks P_L_oldMarks P_X6_oldMarks
  have bad : ∀ QQ : Int32 → sx_F → Prop, (x < 0 ∨ 5 < x) → QQ 0 (sx_u g 0 33 1) → P_X7_oldMarks g x QQ := by
    intro QQ hb q B18 B71 B72 h18 h71 h72
    exact m_in_f hb (m_goes_1 (h18 _ _ _ _ ⟨fun _ => q, fun c => absurd rfl c⟩))
  rcases pk_ix x (n := 6) (by omega) with hx | hx | ⟨d, hd, rfl⟩
  · exact x_needIndex_f (Or.inl hx) ⟨rfl, bad _ (Or.inl hx) (z_finE z_33 (by decide) (hI.go _))⟩
  · exact x_needIndex_f (Or.inr hx) ⟨rfl, bad _ (Or.inr ((z_pred x (n := 6) (by omega)).mpr hx)) (z_finE z_33 (by decide) (hI.go _))⟩
  refine x_needIndex_t (n := 6) hd (by omega) ⟨vp_in_nI (by omega) (by omega), nm_e ?_⟩
  rw [nI_clamp (by omega)]
  have hD := fun s (hs : s < 60) => (R.2.2.2.2.2.2.2.2 d s hd hs).1
  have hv := fun s (hs : s < 60) => (R.2.2.2.2.1 s hs).1
  -- the reference's count, and its end
  have ref : ∀ QQ : Int32 → sx_F → Prop, QQ (nI (z_cnt (fun s => decide (¬ g 9 (60 * d + s) = 0 ∧ ¬ g 10 (60 * d + s) = g 5 s)) 60)) (sx_u g 0 33 0) → P_X7_oldMarks g (nI d) QQ := by
    intro QQ q B18 B71 B72 h18 h71 h72
    refine m_in_t (nI_pos (by omega)) (nI_nlt (a := 5) (b := d) (by omega) (by omega)) (m_goes_0 ?_)
    refine z_up (B := fun k => B18 (sx_u g 0 33 0) (nI (z_cnt (fun s => decide (¬ g 9 (60 * d + s) = 0 ∧ ¬ g 10 (60 * d + s) = g 5 s)) k)) 1 (nI k)) 60 (fun k hk ih => h18 _ _ _ _ ⟨fun c => absurd c (by decide), fun _ => pk_le 60 k (fun c => ?_) (fun c => ?_)⟩)
    · rw [show k = 60 by omega]; exact q
    · rw [z_at2, nI_clamp (n := k) (by omega), nI_clamp (n := 60 * d + k) (by omega)]
      simp (disch := decide) only [sx_u_n]
      have i2 : B18 (sx_u g 0 33 0) (nI (z_cnt (fun s => decide (¬ g 9 (60 * d + s) = 0 ∧ ¬ g 10 (60 * d + s) = g 5 s)) k + (if decide (¬ g 9 (60 * d + k) = 0 ∧ ¬ g 10 (60 * d + k) = g 5 k) then 1 else 0))) 1 (nI (k + 1)) := ih c
      obtain ⟨⟨a, ha, a1, a2⟩, a3⟩ := hD k c
      have no : ¬ (¬ g 9 (60 * d + k) = 0 ∧ ¬ g 10 (60 * d + k) = g 5 k) → B71 (sx_u g 0 33 0) 1 (nI k) (nI (z_cnt (fun s => decide (¬ g 9 (60 * d + s) = 0 ∧ ¬ g 10 (60 * d + s) = g 5 s)) k)) := fun z => by
        rw [decide_eq_false z] at i2
        exact h71 _ _ _ _ (h72 _ _ _ _ _ (nm_e (nm_e (by rw [nI_1]; exact (Int32.add_zero _).symm ▸ i2))))
      refine ⟨vp_in_nI (by omega) (by omega), ?_⟩
      by_cases z : a = 0
      · rw [a2, z]
        exact ⟨fun _ => no (fun y => y.1 (by rw [a2, z]; rfl)), fun y => absurd (nI_le (Nat.le_refl 0) (by omega)) y⟩
      · have nz : ¬ g 9 (60 * d + k) = 0 := by rw [a2]; exact nI_ne0 (by omega) (by omega)
        refine ⟨fun y => absurd y (by rw [a2]; exact nI_nle (by omega) (by omega)), fun _ => ⟨vp_in_nI (by omega) (by omega), vp_in_nI (by omega) (by omega), fun y => no (fun w => w.2 y), fun y => ?_⟩⟩
        rw [decide_eq_true (show ¬ g 9 (60 * d + k) = 0 ∧ ¬ g 10 (60 * d + k) = g 5 k from ⟨nz, y⟩)] at i2
        exact h72 _ _ _ _ _ (nm_e (nm_e (by rw [nI_1, nI_1]; exact i2)))
  have hc : z_cnt (fun s => decide (¬ f (99 + 5 * d + 1) s = 0 ∧ ¬ f (99 + 5 * d + 2) s = f 4 s)) 60 = z_cnt (fun s => decide (¬ g 9 (60 * d + s) = 0 ∧ ¬ g 10 (60 * d + s) = g 5 s)) 60 := z_cnt_c 60 (fun s hs => by
    obtain ⟨⟨a, ha, a1, a2⟩, a3⟩ := hD s hs
    rw [a1, a2, a3, hv s hs])
  intro B4 B37 h4 h37
  refine z_up (B := fun k => B4 (nI (z_cnt (fun s => decide (¬ f (99 + 5 * d + 1) s = 0 ∧ ¬ f (99 + 5 * d + 2) s = f 4 s)) k)) (nI k)) 60 (fun k hk ih => h4 _ _ (pk_le 60 k (fun c => ?_) (fun c => ?_)))
  · rw [show k = 60 by omega, hc]
    exact nm_e (ref _ (z_fin0 z_33 rfl (hI.go _)))
  · rw [nI_clamp (by omega)]
    have i2 : B4 (nI (z_cnt (fun s => decide (¬ f (99 + 5 * d + 1) s = 0 ∧ ¬ f (99 + 5 * d + 2) s = f 4 s)) k + (if decide (¬ f (99 + 5 * d + 1) k = 0 ∧ ¬ f (99 + 5 * d + 2) k = f 4 k) then 1 else 0))) (nI (k + 1)) := ih c
    have no : ¬ (¬ f (99 + 5 * d + 1) k = 0 ∧ ¬ f (99 + 5 * d + 2) k = f 4 k) → B37 (nI (z_cnt (fun s => decide (¬ f (99 + 5 * d + 1) s = 0 ∧ ¬ f (99 + 5 * d + 2) s = f 4 s)) k)) (nI k) := fun z => by
      rw [decide_eq_false z] at i2
      exact h37 _ _ (nm_e (by rw [nI_1]; exact i2))
    refine ⟨vp_in_nI (by omega) (by omega), fun y => no (fun w => w.1 y), fun y => ⟨vp_in_nI (by omega) (by omega), vp_in_nI (by omega) (by omega), fun y2 => no (fun w => w.2 y2), fun y2 => nm_e ?_⟩⟩
    rw [decide_eq_true (show ¬ f (99 + 5 * d + 1) k = 0 ∧ ¬ f (99 + 5 * d + 2) k = f 4 k from ⟨y, y2⟩)] at i2
    exact h37 _ _ (nm_e (by rw [nI_1, nI_1]; exact i2))
end
section
theorem k_mark {t : Nat} {f g : sx_F} {o : Nat → Int64} {x y w : Int32} (h : z_I t f g) : P_case_mark f g o x y w (z_I (t + 1)) := by
  have hI := h
  obtain ⟨S, R⟩ := h
  have hn := R.2.2.1.1
  obtain ⟨m, hm, e1, e2, C1, C2⟩ := R.2.2.2.2.2.2.1
  unfold P_case_mark P_L_mark P_X6_mark
  have bad : ∀ QQ : Int32 → sx_F → Prop, ((x < 0 ∨ nI m ≤ x) ∨ (y < 0 ∨ nI (S 0 0) ≤ y)) → QQ 0 (sx_u g 0 33 1) → P_X7_mark g x y w QQ := by
    intro QQ hb q B20 B21 B57 B58 h20 h21 h57 h58
    have k : B20 g := h20 _ (h21 _ _ ⟨fun _ => h57 _ _ (h58 _ _ _ (m_in (m_goes_1 ⟨fun _ => q, fun c => absurd rfl c⟩))), fun c => absurd rfl c⟩)
    refine m_isCopy e2 (by omega) ?_
    rcases z_b_cases (decide (¬ x < 0 ∧ ¬ nI m ≤ x)) with e | e
    · rw [e]; exact ⟨fun _ => k, fun c => absurd rfl c⟩
    · rw [e]
      refine ⟨fun c => absurd c (by decide), fun _ => m_isBar R.2.1.1 (by omega) ?_⟩
      rcases hb with hb | hb
      · rw [z_no hb] at e; exact absurd e (by decide)
      · rw [z_no hb]; exact ⟨fun _ => k, fun c => absurd rfl c⟩
  rw [e1, R.1.1]
  rcases pk_ix x (n := m) (by omega) with hx | hx | ⟨i, hi, rfl⟩
  · exact x_needIndex_f (Or.inl hx) (Or.inl ⟨rfl, bad _ (Or.inl (Or.inl hx)) (z_finE z_33 (by decide) (hI.go _))⟩)
  · exact x_needIndex_f (Or.inr hx) (Or.inl ⟨rfl, bad _ (Or.inl (Or.inr hx)) (z_finE z_33 (by decide) (hI.go _))⟩)
  refine x_needIndex_t hi (by omega) ?_
  rcases pk_ix y (n := S 0 0) (by omega) with hy | hy | ⟨b, hb, rfl⟩
  · exact x_needIndex_f (Or.inl hy) (Or.inl ⟨rfl, bad _ (Or.inr (Or.inl hy)) (z_finE z_33 (by decide) (hI.go _))⟩)
  · exact x_needIndex_f (Or.inr hy) (Or.inl ⟨rfl, bad _ (Or.inr (Or.inr hy)) (z_finE z_33 (by decide) (hI.go _))⟩)
  refine x_needIndex_t hb (by omega) ?_
  obtain ⟨⟨a, ha, a1, a2⟩, a3, a4⟩ := C1 i hi
  -- the reference, once it is known what is meant
  have ref : ∀ QQ : Int32 → sx_F → Prop, ((w < 0 ∨ 9 < w) → QQ 0 (sx_u g 0 33 2)) → (¬ (w < 0 ∨ 9 < w) → (g 7 i = -1 ∨ g 8 (12 * i + b) = -1) → QQ 0 (sx_u g 0 33 3)) → (¬ (w < 0 ∨ 9 < w) → ¬ g 7 i = -1 → ¬ g 8 (12 * i + b) = -1 → ∀ d, d < 6 → g 7 i = nI d → QQ (g 9 (60 * d + (12 * a + b))) (sx_u (sx_u (sx_u g 0 33 0) 9 (60 * d + (12 * a + b)) w) 10 (60 * d + (12 * a + b)) (g 8 (12 * i + b)))) → P_X7_mark g (nI i) (nI b) w QQ := by
    intro QQ q2 q3 q0 B20 B21 B57 B58 h20 h21 h57 h58
    refine m_isCopy e2 (by omega) ?_
    rw [z_yes hi (by omega)]
    refine ⟨fun c => absurd c (by decide), fun _ => m_isBar R.2.1.1 (by omega) ?_⟩
    rw [z_yes hb (by omega)]
    refine ⟨fun c => absurd c (by decide), fun _ => h21 _ _ ⟨fun c => absurd c (by decide), fun _ => ⟨vp_in_nI (by omega) (by omega), ?_⟩⟩⟩
    have no : (g 7 i = -1 ∨ g 8 (12 * i + b) = -1) → B57 g 1 := fun z => h57 _ _ (h58 _ _ _ (by
      by_cases c : w < 0 ∨ 9 < w
      · exact m_in_f c (m_goes_2 ⟨fun _ => q2 c, fun c => absurd rfl c⟩)
      · exact m_in_t (fun z => c (Or.inl z)) (fun z => c (Or.inr z)) (m_goes_3 ⟨fun _ => q3 c z, fun c => absurd rfl c⟩)))
    rw [nI_clamp (n := i) (by omega), z_cell, nI_clamp (by omega)]
    refine ⟨fun c => no (Or.inl c), fun c1 => ⟨vp_in_nI (by omega) (by omega), fun c => no (Or.inr c), fun c2 => h58 _ _ _ ?_⟩⟩
    by_cases c : w < 0 ∨ 9 < w
    · exact m_in_f c (m_goes_2 ⟨fun _ => q2 c, fun c => absurd rfl c⟩)
    · refine m_in_t (fun z => c (Or.inl z)) (fun z => c (Or.inr z)) (m_goes_0 ⟨fun c => absurd c (by decide), fun _ => ⟨vp_in_nI (by omega) (by omega), vp_in_nI (by omega) (by omega), ?_⟩⟩)
      rw [nI_clamp (n := i) (by omega), z_cell]
      simp (disch := decide) only [sx_u_n]
      obtain ⟨⟨d, hd, ed⟩, -⟩ := a4.resolve_left c1
      rw [a2, ed]
      refine m_cell (nm_e ?_)
      rw [z_at2]
      refine ⟨vp_in_nI (by omega) (by omega), nm_e ⟨vp_in_nI (by omega) (by omega), nm_e ⟨vp_in_nI (by omega) (by omega), vp_in_nI (by omega) (by omega), nm_e ?_⟩⟩⟩
      rw [nI_clamp (n := 60 * d + (12 * a + b)) (by omega), nI_clamp (n := 12 * i + b) (by omega)]
      simp (disch := decide) only [sx_u_n]
      exact q0 c c1 c2 d hd ed
  by_cases cw : w < 0 ∨ 9 < w
  · exact x_needValue_f cw (Or.inr (Or.inl ⟨rfl, ref _ (fun _ => z_finE z_33 (by decide) (hI.go _)) (fun z => absurd cw z) (fun z => absurd cw z)⟩))
  refine x_needValue_t (fun z => cw (Or.inl z)) (fun z => cw (Or.inr z)) ?_
  obtain ⟨p, hp, rfl⟩ : ∃ j : Nat, j ≤ 9 ∧ w = nI j := nI_of2 (M := 9) rfl (fun z => cw (Or.inl z)) (Int32.not_lt.mp (fun z => cw (Or.inr z)))
  refine x_needCopyOut e1 hm hi (fun c => Or.inr (Or.inr ⟨rfl, ?_⟩)) (fun c => ?_)
  · exact ref _ (fun z => absurd z cw) (fun _ _ => z_finE z_33 (by decide) (hI.go _)) (fun _ z => absurd (by rw [← a3]; exact c) z)
  have cg : ¬ g 7 i = -1 := by rw [← a3]; exact c
  obtain ⟨⟨d, hd, ed⟩, ev⟩ := a4.resolve_left cg
  refine x_versionOf a1 ha (by omega) ?_
  rw [if_neg c, ev b (by omega)]
  refine ⟨fun z => ⟨fun y => absurd y (by decide), fun _ => Or.inr (Or.inr ⟨rfl, ref _ (fun z => absurd z cw) (fun _ _ => z_finE z_33 (by decide) (hI.go _)) (fun _ _ y => absurd z y)⟩)⟩, fun z => ⟨fun _ => ?_, fun y => absurd rfl y⟩⟩
  rw [a1, a3, ed]
  refine x_slotOf ⟨vp_in_nI (by omega) (by omega), nm_e ?_⟩
  rw [nI_clamp (by omega)]
  refine x_versionOf a1 ha (by omega) ?_
  rw [if_neg c, ev b (by omega)]
  unfold P_X2_changeMark
  rw [nI_clamp (by omega)]
  refine ⟨vp_in_nI (by omega) (by omega), nm_e ⟨vp_in_nI (by omega) (by omega), nm_e ⟨vp_in_nI (by omega) (by omega), nm_e (nm_e (ref _ (fun z => absurd z cw) (fun _ y => absurd y (fun y => y.elim cg z)) (fun _ _ _ d' hd' ed' => ?_)))⟩⟩⟩
  have : d = d' := (nI_eq (by omega) (by omega)).mp (ed.symm.trans ed')
  subst this
  have hs : 12 * a + b < 60 := by omega
  generalize 12 * a + b = s at hs
  obtain ⟨⟨⟨p0, hp0, q1, q2⟩, q3⟩, -⟩ := R.2.2.2.2.2.2.2.2 d s hd hs
  refine z_fin0 (by rw [sx_u_n (by decide), sx_u_n (by decide)]; exact z_33) (by rw [q1, q2]) ⟨S, R.dk ?_ ?_ ?_ ?_⟩
  · intro k hk; rw [sx_u_n (by omega), sx_u_n (by omega)]
  · intro k hk; rw [sx_u_n (by omega), sx_u_n (by omega), sx_u_n (by omega)]
  · intro j hj; rw [sx_u_n (by decide), sx_u_n (by decide), sx_u_s, pk_un hj]
  · intro d' s' hd' hs'
    obtain ⟨⟨⟨r0, hr0, r1, r2⟩, r3⟩, r4⟩ := R.mono.2.2.2.2.2.2.2.2 d' s' hd' hs'
    refine ⟨⟨?_, ?_⟩, ?_⟩
    · by_cases e5 : d' = d
      · subst e5
        by_cases e6 : s' = s
        · subst e6
          simp (disch := omega) only [sx_u_n, sx_u_s, pk_us]
          exact ⟨p, hp, rfl, rfl⟩
        · simp (disch := omega) only [sx_u_n, sx_u_s, pk_un]
          exact ⟨r0, hr0, r1, r2⟩
      · simp (disch := omega) only [sx_u_n, sx_u_s, pk_un]
        exact ⟨r0, hr0, r1, r2⟩
    · by_cases e5 : d' = d
      · subst e5
        by_cases e6 : s' = s
        · subst e6
          simp (disch := omega) only [sx_u_n, sx_u_s, pk_us]
        · simp (disch := omega) only [sx_u_n, sx_u_s, pk_un]
          exact r3
      · simp (disch := omega) only [sx_u_n, sx_u_s, pk_un]
        exact r3
    · unfold z_D2 at r4 ⊢
      simp (disch := omega) only [sx_u_n]
      exact r4
theorem m_bow {t : Nat} {f g : sx_F} {S : z_S} {m i a b k : Nat} {w : Int32} {QQ : Int32 → sx_F → Prop} (R : z_R t f g S) (e2 : g 0 11 = nI m) (hm : m ≤ 16) (hi : i < m) (ha : a < 5) (a2 : g 6 i = nI a) (hb : b < S 0 0) (hk : k < S 2 (12 * a + b)) (a4 : g 7 i = -1 ∨ ∃ d, d < 6 ∧ g 7 i = nI d) (q2 : (w < 0 ∨ 2 < w) → QQ 0 (sx_u g 0 33 2)) (q3 : ¬ (w < 0 ∨ 2 < w) → (g 7 i = -1 ∨ z_owm g i a b = true) → QQ 0 (sx_u g 0 33 3)) (q0 : ¬ (w < 0 ∨ 2 < w) → ¬ g 7 i = -1 → z_owm g i a b = false → ∀ d, d < 6 → g 7 i = nI d → QQ (z_bM g d (12 * a + b) k) (sx_u (sx_u (sx_u g 0 33 0) 11 (8 * (60 * d + (12 * a + b)) + k) w) 12 (8 * (60 * d + (12 * a + b)) + k) (g 5 (12 * a + b)))) : P_X7_bow g (nI i) (nI b) (nI k) w QQ := by
  have hn := R.2.2.1.1
  have hs : 12 * a + b < 60 := by omega
  have hc8 := R.2.2.1.2.2.1 _ hs
  intro B31 B32 B72 B73 h31 h32 h72 h73
  refine m_isCopy e2 (by omega) ?_
  rw [z_yes hi (by omega)]
  refine ⟨fun c => absurd c (by decide), fun _ => ⟨vp_in_nI (by omega) (by omega), ?_⟩⟩
  rw [nI_clamp (n := i) (by omega), a2]
  refine m_isNote_t R.2.1 R.2.2.1 ha hb hk ⟨fun c => absurd c (by decide), fun _ => h32 _ _ ?_⟩
  by_cases c : w < 0 ∨ 2 < w
  · have k3 : ∀ z, B73 g 1 0 z := fun z => h73 _ _ _ _ (m_goes_2 ⟨fun _ => q2 c, fun c => absurd rfl c⟩)
    refine m_in_f c ⟨fun c => absurd c (by decide), fun _ => ⟨vp_in_nI (by omega) (by omega), fun _ => h72 _ _ _ (k3 0), fun _ => m_owes (by omega) a2 ha (by omega) ?_⟩⟩
    cases z_owm g i a b
    · exact ⟨fun _ => k3 1, fun c => absurd rfl c⟩
    · exact ⟨fun c => absurd c (by decide), fun _ => h72 _ _ _ (k3 0)⟩
  · refine m_in_t (fun z => c (Or.inl z)) (fun z => c (Or.inr z)) ⟨fun c => absurd c (by decide), fun _ => ⟨vp_in_nI (by omega) (by omega), ?_⟩⟩
    rw [nI_clamp (n := i) (by omega)]
    have no : (g 7 i = -1 ∨ z_owm g i a b = true) → B72 g 1 1 := fun z => h72 _ _ _ (h73 _ _ _ _ (m_goes_3 ⟨fun _ => q3 c z, fun c => absurd rfl c⟩))
    refine ⟨fun c1 => no (Or.inl c1), fun c1 => m_owes (by omega) a2 ha (by omega) ?_⟩
    cases hz : z_owm g i a b
    · refine ⟨fun _ => h73 _ _ _ _ (m_goes_0 ⟨fun c => absurd c (by decide), fun _ => ⟨vp_in_nI (by omega) (by omega), ?_⟩⟩), fun c => absurd rfl c⟩
      rw [nI_clamp (n := i) (by omega)]
      simp (disch := decide) only [sx_u_n]
      obtain ⟨d, hd, ed⟩ := a4.resolve_left c1
      rw [a2, ed]
      refine m_cell ⟨vp_in_nI (by omega) (by omega), nm_e ⟨vp_in_nI (by omega) (by omega), m_bowing hd hs (by omega) ?_⟩⟩
      rw [z_at3, nI_clamp (n := 12 * a + b) (by omega), nI_clamp (n := 8 * (60 * d + (12 * a + b)) + k) (by omega)]
      refine ⟨vp_in_nI (by omega) (by omega), nm_e ⟨vp_in_nI (by omega) (by omega), vp_in_nI (by omega) (by omega), nm_e ?_⟩⟩
      have q := q0 c c1 hz d hd ed
      rw [show (sx_u (sx_u g 0 33 0) 11 (8 * (60 * d + (12 * a + b)) + k) w) 5 = g 5 by rw [sx_u_n (by decide), sx_u_n (by decide)]]
      rw [show z_bM (sx_u g 0 33 0) d (12 * a + b) k = z_bM g d (12 * a + b) k by unfold z_bM; rw [sx_u_n (by decide), sx_u_n (by decide), sx_u_n (by decide)]]
      exact q
    · exact ⟨fun c => absurd c (by decide), fun _ => no (Or.inr hz)⟩
theorem k_bow {t : Nat} {f g : sx_F} {o : Nat → Int64} {x y v w : Int32} (ht : t < 1000000) (h : z_I t f g) : P_case_bow f g o x y v w (z_I (t + 1)) := by
  have hI := h
  obtain ⟨S, R⟩ := h
  have hn := R.2.2.1.1
  obtain ⟨m, hm, e1, e2, C1, C2⟩ := R.2.2.2.2.2.2.1
  unfold P_case_bow P_L_bow P_X6_bow
  have bad : ∀ QQ : Int32 → sx_F → Prop, ((x < 0 ∨ nI m ≤ x) ∨ ∃ i a : Nat, i < m ∧ a < 5 ∧ x = nI i ∧ g 6 i = nI a ∧ ((y < 0 ∨ nI (S 0 0) ≤ y) ∨ ∃ b, b < S 0 0 ∧ y = nI b ∧ (v < 0 ∨ nI (S 2 (12 * a + b)) ≤ v))) → QQ 0 (sx_u g 0 33 1) → P_X7_bow g x y v w QQ := by
    intro QQ hb q B31 B32 B72 B73 h31 h32 h72 h73
    have k73 : ∀ r, B73 g 0 r 0 := fun r => h73 _ _ _ _ (m_goes_1 ⟨fun _ => q, fun c => absurd rfl c⟩)
    have k : B31 g := h31 _ (h32 _ _ (m_in ⟨fun _ => h72 _ _ _ (k73 _), fun c => absurd rfl c⟩))
    refine m_isCopy e2 (by omega) ?_
    rcases hb with hb | ⟨i, a, hi, ha, rfl, a2, hb⟩
    · rw [z_no hb]; exact ⟨fun _ => k, fun c => absurd rfl c⟩
    · rw [z_yes hi (by omega)]
      refine ⟨fun c => absurd c (by decide), fun _ => ⟨vp_in_nI (by omega) (by omega), ?_⟩⟩
      rw [nI_clamp (by omega), a2]
      refine m_isNote_f R.2.1 R.2.2.1 ?_ ⟨fun _ => k, fun c => absurd rfl c⟩
      rcases hb with hb | ⟨b, hb, rfl, hv⟩
      · exact Or.inl (Or.inr hb)
      · exact Or.inr ⟨a, b, ha, hb, rfl, rfl, hv⟩
  rw [e1]
  rcases pk_ix x (n := m) (by omega) with hx | hx | ⟨i, hi, rfl⟩
  · exact x_needIndex_f (Or.inl hx) (Or.inl ⟨rfl, bad _ (Or.inl (Or.inl hx)) (z_finE z_33 (by decide) (hI.go _))⟩)
  · exact x_needIndex_f (Or.inr hx) (Or.inl ⟨rfl, bad _ (Or.inl (Or.inr hx)) (z_finE z_33 (by decide) (hI.go _))⟩)
  obtain ⟨⟨a, ha, a1, a2⟩, a3, a4⟩ := C1 i hi
  refine x_needIndex_t hi (by omega) ⟨vp_in_nI (by omega) (by omega), nm_e ?_⟩
  rw [nI_clamp (by omega), a1]
  rcases pk_ix y (n := S 0 0) (by omega) with hy | hy | ⟨b, hb, rfl⟩
  · exact x_needSlot_f R.1 (Or.inr (Or.inl hy)) (Or.inl ⟨rfl, bad _ (Or.inr ⟨i, a, hi, ha, rfl, a2, Or.inl (Or.inl hy)⟩) (z_finE z_33 (by decide) (hI.go _))⟩)
  · exact x_needSlot_f R.1 (Or.inr (Or.inr hy)) (Or.inl ⟨rfl, bad _ (Or.inr ⟨i, a, hi, ha, rfl, a2, Or.inl (Or.inr hy)⟩) (z_finE z_33 (by decide) (hI.go _))⟩)
  have hs : 12 * a + b < 60 := by omega
  have hc8 := R.2.2.1.2.2.1 _ hs
  refine x_needSlot_t R.1 R.2.2.1 ha hb ⟨vp_in_nI (by omega) (by omega), ?_⟩
  rw [nI_clamp (by omega), R.1.2.2.1 _ hs]
  rcases pk_ix v (n := S 2 (12 * a + b)) (by omega) with hv | hv | ⟨k, hk, rfl⟩
  · exact x_needIndex_f (Or.inl hv) (Or.inl ⟨rfl, bad _ (Or.inr ⟨i, a, hi, ha, rfl, a2, Or.inr ⟨b, hb, rfl, Or.inl hv⟩⟩) (z_finE z_33 (by decide) (hI.go _))⟩)
  · exact x_needIndex_f (Or.inr hv) (Or.inl ⟨rfl, bad _ (Or.inr ⟨i, a, hi, ha, rfl, a2, Or.inr ⟨b, hb, rfl, Or.inr hv⟩⟩) (z_finE z_33 (by decide) (hI.go _))⟩)
  have b4 : g 7 i = -1 ∨ ∃ d, d < 6 ∧ g 7 i = nI d := a4.imp id (fun z => z.1)
  refine x_needIndex_t hk (by omega) ?_
  by_cases cw : w < 0 ∨ 2 < w
  · exact x_needValue_f cw (Or.inr (Or.inl ⟨rfl, m_bow R e2 hm hi ha a2 hb hk b4 (fun _ => z_finE z_33 (by decide) (hI.go _)) (fun z => absurd cw z) (fun z => absurd cw z)⟩))
  refine x_needValue_t (fun z => cw (Or.inl z)) (fun z => cw (Or.inr z)) ?_
  obtain ⟨p, hp, rfl⟩ : ∃ j : Nat, j ≤ 2 ∧ w = nI j := nI_of2 (M := 2) rfl (fun z => cw (Or.inl z)) (Int32.not_lt.mp (fun z => cw (Or.inr z)))
  refine x_needCopyOut e1 hm hi (fun c => Or.inr (Or.inr ⟨rfl, ?_⟩)) (fun c => ?_)
  · exact m_bow R e2 hm hi ha a2 hb hk b4 (fun z => absurd z cw) (fun _ _ => z_finE z_33 (by decide) (hI.go _)) (fun _ z => absurd (by rw [← a3]; exact c) z)
  have cg : ¬ g 7 i = -1 := by rw [← a3]; exact c
  refine x_owes a1 ha (by omega) ?_
  rw [z_ow_eq R (C1 i hi) ha (by omega)]
  cases hz : z_owm g i a b
  · refine ⟨fun _ => ?_, fun y => absurd rfl y⟩
    obtain ⟨d, hd, ed⟩ := b4.resolve_left cg
    rw [a3, ed, nI_clamp (n := d) (by omega)]
    refine ⟨vp_in_nI (by omega) (by omega), nm_e ⟨vp_in_nI (by omega) (by omega), fun B36 h36 => x_bowingAt hs ⟨vp_in_nI (by omega) (by omega), ?_⟩⟩⟩
    rw [nI_clamp (n := 12 * a + b) (by omega)]
    have fin : ∀ (f' : sx_F) (r : Int32), r = z_bX f d (12 * a + b) k → (∀ q, q ≠ 99 + 5 * d + 3 → q ≠ 99 + 5 * d + 4 → f' q = f q) → (∀ s, s ≠ 12 * a + b → f' (99 + 5 * d + 3) s = f (99 + 5 * d + 3) s ∧ f' (99 + 5 * d + 4) s = f (99 + 5 * d + 4) s) → f' (99 + 5 * d + 4) (12 * a + b) = f 4 (12 * a + b) → (∀ j, j < 8 → z_bit (f' (99 + 5 * d + 3) (12 * a + b)) j = if j = k then nI p else z_bX f d (12 * a + b) j) → ∀ o1 : Nat → Int64, o1 = vp_updL o 0 r.toInt64 → P_X7_bow g (nI i) (nI b) (nI k) (nI p) (fun bb g1 => P_X7_thrown g1 (fun tt => tt = 0 ∧ ((0 : Int32) = 0 → o1 0 = bb.toInt64) ∧ z_I (t + 1) f' g1)) := by
      intro f' r hr u1 u2 u3 u4
      refine nm_e (m_bow R e2 hm hi ha a2 hb hk b4 (fun z => absurd z cw) (fun _ z => absurd z (fun z => z.elim cg (fun z => by rw [hz] at z; exact absurd z (by decide)))) (fun _ _ _ d' hd' ed' => ?_))
      have : d = d' := (nI_eq (by omega) (by omega)).mp (ed.symm.trans ed')
      subst this
      rw [hr]
      refine z_fin0 (by rw [sx_u_n (by decide), sx_u_n (by decide)]; exact z_33) (z_bXM ht R hd hs (by omega)).1 ⟨S, R.dk ?_ ?_ ?_ ?_⟩
      · intro q hq; exact u1 q (by omega) (by omega)
      · intro q hq; rw [sx_u_n (by omega), sx_u_n (by omega), sx_u_n (by omega)]
      · intro j hj; rw [sx_u_n (by decide), sx_u_n (by decide), sx_u_s, pk_un hj]
      · generalize 12 * a + b = s at hs u2 u3 u4
        intro d' s' hd' hs'
        obtain ⟨r1, e, ver, r2, r3, r4, r5, r6⟩ := R.mono.2.2.2.2.2.2.2.2 d' s' hd' hs'
        refine ⟨?_, ?_⟩
        · unfold z_D1 at r1 ⊢
          rw [u1 _ (by omega) (by omega), u1 _ (by omega) (by omega)]
          simp (disch := decide) only [sx_u_n]
          exact r1
        · unfold z_D2
          simp (disch := decide) only [sx_u_n, sx_u_s]
          by_cases e5 : d' = d ∧ s' = s
          · obtain ⟨rfl, rfl⟩ := e5
            have hver := (R.2.2.2.2.1 s' hs).1
            refine ⟨ver, ver, Nat.le_refl _, r3, by rw [u3, hver, r5], r5, fun j hj => ?_⟩
            rw [u4 j hj]
            by_cases ej : j = k
            · subst ej
              refine ⟨p, ver, hp, Nat.le_refl _, by rw [pk_us], by rw [pk_us, r5], by rw [if_pos rfl, if_pos rfl, if_pos rfl]⟩
            · obtain ⟨a', c', f1, f2, f3, f4, f5⟩ := r6 j hj
              refine ⟨a', c', f1, f2, by rw [pk_un (by omega)]; exact f3, by rw [pk_un (by omega)]; exact f4, ?_⟩
              rw [if_pos rfl, if_neg ej, (z_bXM ht R hd hs hj).1]
              unfold z_bM
              rw [f3, f4, r5]
              have i2 : (nI c' = nI ver) ↔ c' = ver := nI_eq (by omega) (by omega)
              simp only [i2]
          · refine ⟨e, ver, r2, r3, ?_, r5, fun j hj => ?_⟩
            · by_cases e6 : d' = d
              · subst e6
                rw [(u2 s' (fun z => e5 ⟨rfl, z⟩)).2]; exact r4
              · rw [u1 _ (by omega) (by omega)]; exact r4
            · obtain ⟨a', c', f1, f2, f3, f4, f5⟩ := r6 j hj
              refine ⟨a', c', f1, f2, by rw [pk_un (by omega)]; exact f3, by rw [pk_un (by omega)]; exact f4, ?_⟩
              by_cases e6 : d' = d
              · subst e6
                rw [(u2 s' (fun z => e5 ⟨rfl, z⟩)).1]; exact f5
              · rw [u1 _ (by omega) (by omega)]; exact f5
    refine ⟨fun ce => h36 _ _ ⟨vp_in_nI (by omega) (by omega), vp_in_nI (by omega) (by omega), nm_e ?_⟩, fun ce => ⟨vp_in_nI (by omega) (by omega), nm_e ⟨vp_in_nI (by omega) (by omega), nm_e (h36 _ _ ⟨vp_in_nI (by omega) (by omega), vp_in_nI (by omega) (by omega), nm_e ?_⟩)⟩⟩⟩
    · rw [nI_clamp (n := 12 * a + b) (by omega)]
      refine fin _ _ rfl (fun q h3 h4 => by rw [sx_u_n h3]) (fun s hs => ⟨by rw [sx_u_s, pk_un hs], by rw [sx_u_n (by omega)]⟩) (by rw [sx_u_n (by omega)]; exact ce) (fun j hj => ?_)
      rw [sx_u_s, pk_us]
      show z_bit (z_put _ (nI p) k) j = _
      by_cases ej : j = k
      · rw [ej, if_pos rfl, z_bit_s (by omega) hp]
      · rw [if_neg ej, z_bit_n (by omega) hj ej hp]
        unfold z_bX
        rw [if_pos ce]
    · rw [nI_clamp (n := 12 * a + b) (by omega)]
      refine fin _ _ rfl (fun q h3 h4 => by rw [sx_u_n h3, sx_u_n h3, sx_u_n h4]) (fun s hs => ⟨by rw [sx_u_s, pk_un hs, sx_u_s, pk_un hs, sx_u_n (by omega)], by rw [sx_u_n (by omega), sx_u_n (by omega), sx_u_s, pk_un hs]⟩) (by rw [sx_u_n (by omega), sx_u_n (by omega), sx_u_s, pk_us]) (fun j hj => ?_)
      rw [sx_u_s, pk_us, sx_u_s, pk_us]
      show z_bit (z_put _ (nI p) k) j = _
      by_cases ej : j = k
      · rw [ej, if_pos rfl, z_bit_s (by omega) hp]
      · rw [if_neg ej, z_bit_n (by omega) hj ej hp, z_bit_0 hj]
        unfold z_bX
        rw [if_neg ce]
  · exact ⟨fun y => absurd y (by decide), fun _ => Or.inr (Or.inr ⟨rfl, m_bow R e2 hm hi ha a2 hb hk b4 (fun z => absurd z cw) (fun _ _ => z_finE z_33 (by decide) (hI.go _)) (fun _ _ z => by rw [hz] at z; exact absurd z (by decide))⟩)⟩
end
section
def z_sm (p : Nat → Nat) : Nat → Nat | 0 => 0 | k + 1 => z_sm p k + p k
theorem z_sm_c {p q : Nat → Nat} : ∀ k, (∀ j, j < k → p j = q j) → z_sm p k = z_sm q k
  | 0, _ => rfl
  | k + 1, h => by
    unfold z_sm
    rw [z_sm_c k (fun j hj => h j (by omega)), h k (by omega)]
theorem z_sm_3 (p q r : Nat → Nat) : ∀ n, z_sm (fun k => p k + q k + r k) n = z_sm p n + z_sm q n + z_sm r n
  | 0 => rfl
  | n + 1 => by
    have := z_sm_3 p q r n
    unfold z_sm
    omega
def z_cl (g : sx_F) (st s k : Nat) : Nat := if ¬ z_bM g (2 * st) s k = 0 ∧ ¬ z_bM g (2 * st + 1) s k = 0 ∧ ¬ z_bM g (2 * st) s k = z_bM g (2 * st + 1) s k then 1 else 0
theorem x_clashesAt {t : Nat} {f g : sx_F} {S : z_S} {i st : Nat} {Q : Int32 → Prop} (ht : t < 1000000) (R : z_R t f g S) (hi : i < 5) (hst : st < 3) (h : Q (nI (z_sm (fun b => z_sm (z_cl g st (12 * i + b)) (S 2 (12 * i + b))) (S 0 0)))) : P_X6_clashesAt f (99 + 5 * (2 * st)) (99 + 5 * (2 * st + 1)) (nI i) Q := by
  have hn := R.2.2.1.1
  intro B6 B41 B100 h6 h41 h100
  refine z_up (B := fun b => B6 (nI (z_sm (fun b => z_sm (z_cl g st (12 * i + b)) (S 2 (12 * i + b))) b)) (nI b)) (S 0 0) (fun b hb ih => h6 _ _ ?_)
  rw [R.1.1]
  refine pk_le (S 0 0) b (fun c => by rw [show b = S 0 0 by omega]; exact h) (fun c => x_slotOf ⟨vp_in_nI (by omega) (by omega), nm_e ?_⟩)
  have i1 : B6 (nI (z_sm (fun b => z_sm (z_cl g st (12 * i + b)) (S 2 (12 * i + b))) b + z_sm (z_cl g st (12 * i + b)) (S 2 (12 * i + b)))) (nI (b + 1)) := ih c
  have hs : 12 * i + b < 60 := by omega
  generalize 12 * i + b = s at hs i1
  have hc := R.2.2.1.2.2.1 s hs
  rw [nI_clamp (by omega)]
  generalize z_sm (fun b => z_sm (z_cl g st (12 * i + b)) (S 2 (12 * i + b))) b = z at i1
  have key : B41 (nI (z + z_sm (z_cl g st s) 0)) (nI b) (nI s) (f 4 s) (nI 0) := by
    refine z_up (B := fun k => B41 (nI (z + z_sm (z_cl g st s) k)) (nI b) (nI s) (f 4 s) (nI k)) (S 2 s) (fun k hk ih => h41 _ _ _ _ _ ⟨vp_in_nI (by omega) (by omega), ?_⟩)
    rw [nI_clamp (by omega), R.1.2.2.1 s hs]
    refine pk_le (S 2 s) k (fun c => nm_e ?_) (fun c => x_bowingAt hs (x_bowingAt hs ?_))
    · rw [show k = S 2 s by omega, nI_1]; exact i1
    · have i2 : B41 (nI (z + (z_sm (z_cl g st s) k + z_cl g st s k))) (nI b) (nI s) (f 4 s) (nI (k + 1)) := ih c
      rw [(z_bXM ht R (d := 2 * st) (by omega) hs (by omega)).1, (z_bXM ht R (d := 2 * st + 1) (by omega) hs (by omega)).1]
      unfold z_cl at i2
      have no : ¬ (¬ z_bM g (2 * st) s k = 0 ∧ ¬ z_bM g (2 * st + 1) s k = 0 ∧ ¬ z_bM g (2 * st) s k = z_bM g (2 * st + 1) s k) → B100 (nI (z + z_sm (z_cl g st s) k)) (nI b) (nI s) (f 4 s) (nI k) := fun y => by
        rw [if_neg y] at i2
        exact h100 _ _ _ _ _ (nm_e (by rw [nI_1]; exact i2))
      refine ⟨fun y => no (fun w => w.1 y), fun y1 => ⟨fun y => no (fun w => w.2.1 y), fun y2 => ⟨fun y => no (fun w => w.2.2 y), fun y3 => nm_e ?_⟩⟩⟩
      rw [if_pos ⟨y1, y2, y3⟩] at i2
      exact h100 _ _ _ _ _ (nm_e (by rw [nI_1, nI_1]; exact i2))
  exact key
theorem m_clashes {t : Nat} {f g : sx_F} {S : z_S} {i : Nat} {QQ : Int32 → sx_F → Prop} (ht : t < 1000000) (R : z_R t f g S) (hi : i < 5) (h : QQ (nI (z_sm (fun b => z_sm (fun k => z_cl g 0 (12 * i + b) k + z_cl g 1 (12 * i + b) k + z_cl g 2 (12 * i + b) k) (S 2 (12 * i + b))) (S 0 0))) (sx_u g 0 33 0)) : P_X7_clashes g (nI i) QQ := by
  have hn := R.2.2.1.1
  intro B16 B40 B55 B110 B111 h16 h40 h55 h110 h111
  refine m_isInstrument ?_
  rw [z_yes hi (by omega)]
  refine m_goes_0 ?_
  have g5 : (sx_u g 0 33 0) 0 5 = nI (S 0 0) := by rw [sx_u_s, pk_un (by decide)]; exact R.2.1.1
  have gb : ∀ d s k, z_bM (sx_u g 0 33 0) d s k = z_bM g d s k := fun d s k => by unfold z_bM; rw [sx_u_n (by decide), sx_u_n (by decide), sx_u_n (by decide)]
  have g4 : (sx_u g 0 33 0) 4 = g 4 := sx_u_n (by decide)
  generalize sx_u g 0 33 0 = g0 at g5 gb g4 h ⊢
  refine z_up (B := fun b => B16 g0 (nI (z_sm (fun b => z_sm (fun k => z_cl g 0 (12 * i + b) k + z_cl g 1 (12 * i + b) k + z_cl g 2 (12 * i + b) k) (S 2 (12 * i + b))) b)) 1 (nI b)) (S 0 0) (fun b hb ih => h16 _ _ _ _ ⟨fun c => absurd c (by decide), fun _ => ?_⟩)
  rw [g5]
  refine pk_le (S 0 0) b (fun c => by rw [show b = S 0 0 by omega]; exact h) (fun c => m_cell ?_)
  have i1 : B16 g0 (nI (z_sm (fun b => z_sm (fun k => z_cl g 0 (12 * i + b) k + z_cl g 1 (12 * i + b) k + z_cl g 2 (12 * i + b) k) (S 2 (12 * i + b))) b + z_sm (fun k => z_cl g 0 (12 * i + b) k + z_cl g 1 (12 * i + b) k + z_cl g 2 (12 * i + b) k) (S 2 (12 * i + b)))) 1 (nI (b + 1)) := ih c
  have hs : 12 * i + b < 60 := by omega
  generalize 12 * i + b = s at hs i1
  have hc := R.2.2.1.2.2.1 s hs
  generalize z_sm (fun b => z_sm (fun k => z_cl g 0 (12 * i + b) k + z_cl g 1 (12 * i + b) k + z_cl g 2 (12 * i + b) k) (S 2 (12 * i + b))) b = z at i1
  have key : B40 g0 (nI (z + z_sm (fun k => z_cl g 0 s k + z_cl g 1 s k + z_cl g 2 s k) 0)) 1 (nI b) (nI s) (nI 0) := by
    refine z_up (B := fun k => B40 g0 (nI (z + z_sm (fun k => z_cl g 0 s k + z_cl g 1 s k + z_cl g 2 s k) k)) 1 (nI b) (nI s) (nI k)) (S 2 s) (fun k hk ih => h40 _ _ _ _ _ _ ⟨vp_in_nI (by omega) (by omega), ?_⟩)
    rw [nI_clamp (by omega), g4, R.2.1.2.2.1 s hs]
    refine pk_le (S 2 s) k (fun c => nm_e ?_) (fun c => ?_)
    · rw [show k = S 2 s by omega, nI_1]; exact i1
    have i2 : B40 g0 (nI (z + (z_sm (fun k => z_cl g 0 s k + z_cl g 1 s k + z_cl g 2 s k) k + (z_cl g 0 s k + z_cl g 1 s k + z_cl g 2 s k)))) 1 (nI b) (nI s) (nI (k + 1)) := ih c
    generalize z_sm (fun k => z_cl g 0 s k + z_cl g 1 s k + z_cl g 2 s k) k = y at i2
    -- one stand
    have one : ∀ st x, st < 3 → B55 g0 (nI (x + z_cl g st s k)) 1 (nI b) (nI s) (nI k) (nI (2 * st + 2)) → B55 g0 (nI x) 1 (nI b) (nI s) (nI k) (nI (2 * st)) := by
      intro st x hst nx
      refine h55 _ _ _ _ _ _ _ (pk_le 6 (2 * st) (fun c => absurd c (by omega)) (fun _ => m_bowing (by omega) hs (by omega) ?_))
      rw [nI_1]
      refine m_bowing (by omega) hs (by omega) ?_
      rw [gb, gb]
      obtain ⟨a, ha, ea⟩ := (z_bXM ht R (d := 2 * st) (by omega) hs (show k < 8 by omega)).2
      obtain ⟨a', ha', ea'⟩ := (z_bXM ht R (d := 2 * st + 1) (by omega) hs (show k < 8 by omega)).2
      unfold z_cl at nx
      rw [ea, ea'] at nx ⊢
      have e1 : (nI a = 0) ↔ a = 0 := nI_eq (a := a) (b := 0) (by omega) (by omega)
      have e2 : (nI a' = 0) ↔ a' = 0 := nI_eq (a := a') (b := 0) (by omega) (by omega)
      have e3 : (nI a = nI a') ↔ a = a' := nI_eq (by omega) (by omega)
      simp only [e1, e2, e3] at nx
      have no : ¬ (¬ a = 0 ∧ ¬ a' = 0 ∧ ¬ a = a') → B110 g0 1 (nI b) (nI s) (nI k) (nI (2 * st)) (nI x) := fun w => by
        rw [if_neg w] at nx
        refine h110 _ _ _ _ _ _ _ (h111 _ _ _ _ _ _ _ _ (nm_e (nm_e ?_)))
        rw [Int32.add_zero, z_l2, nI_add]; exact nx
      refine pk_le a 0 (fun c => no (fun w => w.1 (by omega))) (fun c1 => pk_le a' 0 (fun c => no (fun w => w.2.1 (by omega))) (fun c2 => pk_eq a a' (fun c => no (fun w => w.2.2 c)) (fun c3 => h111 _ _ _ _ _ _ _ _ (nm_e (nm_e ?_)))))
      rw [if_pos ⟨by omega, by omega, c3⟩] at nx
      rw [nI_1, z_l2, nI_add]; exact nx
    refine one 0 _ (by omega) (one 1 _ (by omega) (one 2 _ (by omega) (h55 _ _ _ _ _ _ _ (pk_le 6 6 (fun _ => nm_e ?_) (fun c => absurd c (by omega))))))
    rw [nI_1, show z + y + z_cl g 0 s k + z_cl g 1 s k + z_cl g 2 s k = z + (y + (z_cl g 0 s k + z_cl g 1 s k + z_cl g 2 s k)) by omega]
    exact i2
  exact key
theorem k_clashes {t : Nat} {f g : sx_F} {o : Nat → Int64} {x : Int32} (ht : t < 1000000) (h : z_I t f g) : P_case_clashes f g o x (z_I (t + 1)) := by
  have hI := h
  obtain ⟨S, R⟩ := h
  unfold P_case_clashes P_L_clashes
  have bad : ∀ QQ : Int32 → sx_F → Prop, (x < 0 ∨ nI 5 ≤ x) → QQ 0 (sx_u g 0 33 1) → P_X7_clashes g x QQ := by
    intro QQ hb q B16 B40 B55 B110 B111 h16 h40 h55 h110 h111
    refine m_isInstrument ?_
    rw [z_no hb]
    exact m_goes_1 (h16 _ _ _ _ ⟨fun _ => q, fun c => absurd rfl c⟩)
  intro B9 h9
  rcases pk_ix x (n := 5) (by omega) with hx | hx | ⟨i, hi, rfl⟩
  · exact x_needIndex_f (Or.inl hx) ⟨rfl, bad _ (Or.inl hx) (z_finE z_33 (by decide) (hI.go _))⟩
  · exact x_needIndex_f (Or.inr hx) ⟨rfl, bad _ (Or.inr hx) (z_finE z_33 (by decide) (hI.go _))⟩
  refine x_needIndex_t (n := 5) hi (by omega) ?_
  have one : ∀ st y, st < 3 → B9 (nI (y + z_sm (fun b => z_sm (z_cl g st (12 * i + b)) (S 2 (12 * i + b))) (S 0 0))) (nI (st + 1)) → B9 (nI y) (nI st) := by
    intro st y hst nx
    refine h9 _ _ (pk_le 3 st (fun c => absurd c (by omega)) (fun _ => ?_))
    rw [show (2 : Int32) * nI st = nI (2 * st) from pk_mul 2 st, nI_1, nI_clamp (by omega), nI_clamp (by omega)]
    refine ⟨vp_in_nI (by omega) (by omega), nm_e ⟨vp_in_nI (by omega) (by omega), nm_e (x_clashesAt ht R hi hst (nm_e (nm_e ?_)))⟩⟩
    rw [nI_add, nI_1]
    exact nx
  refine one 0 0 (by omega) (one 1 _ (by omega) (one 2 _ (by omega) (h9 _ _ (pk_le 3 3 (fun _ => nm_e (m_clashes ht R hi (z_fin0 z_33 ?_ (hI.go _)))) (fun c => absurd c (by omega))))))
  refine congrArg nI ?_
  rw [z_sm_c (p := fun b => z_sm (fun k => z_cl g 0 (12 * i + b) k + z_cl g 1 (12 * i + b) k + z_cl g 2 (12 * i + b) k) (S 2 (12 * i + b))) (q := fun b => z_sm (z_cl g 0 (12 * i + b)) (S 2 (12 * i + b)) + z_sm (z_cl g 1 (12 * i + b)) (S 2 (12 * i + b)) + z_sm (z_cl g 2 (12 * i + b)) (S 2 (12 * i + b))) (S 0 0) (fun b _ => z_sm_3 _ _ _ _), z_sm_3]
  omega
end
section
/-! THE ITEMS OF A BOOK. a drawer as a number: 0..4 an instrument, 5 the score, 6 a rest -/
def z_dr (d : Nat) : Int32 := if d = 6 then -1 else nI d
theorem z_dr6 : z_dr 6 = -1 := rfl
theorem z_drn {d : Nat} (h : d ≠ 6) : z_dr d = nI d := if_neg h
theorem z_dr_m1 {d : Nat} (h : d ≤ 6) : z_dr d = -1 ↔ d = 6 := by
  by_cases e : d = 6
  · rw [e]; exact ⟨fun _ => rfl, fun _ => rfl⟩
  · rw [z_drn e]; exact ⟨fun z => absurd z (z_nm (by omega)), fun z => absurd z e⟩
def z_mo (S : z_S) (p b : Nat) : Nat := if p = 6 then 0 else S 2 (12 * p + b)
def z_best (S : z_S) (bk b : Nat) : Nat → Nat
  | 0 => 6
  | k + 1 => if k ≠ bk ∧ z_sil S (12 * k + b) = false ∧ z_mo S (z_best S bk b k) b < S 2 (12 * k + b) then k else z_best S bk b k
theorem z_best_r {S : z_S} {bk b : Nat} : ∀ k, k ≤ 5 → z_best S bk b k = 6 ∨ (z_best S bk b k < k ∧ z_best S bk b k ≠ bk ∧ z_sil S (12 * z_best S bk b k + b) = false)
  | 0, _ => Or.inl rfl
  | k + 1, h => by
    have ih := z_best_r (S := S) (bk := bk) (b := b) k (by omega)
    show (if k ≠ bk ∧ z_sil S (12 * k + b) = false ∧ z_mo S (z_best S bk b k) b < S 2 (12 * k + b) then k else z_best S bk b k) = 6 ∨ ((if k ≠ bk ∧ z_sil S (12 * k + b) = false ∧ z_mo S (z_best S bk b k) b < S 2 (12 * k + b) then k else z_best S bk b k) < k + 1 ∧ (if k ≠ bk ∧ z_sil S (12 * k + b) = false ∧ z_mo S (z_best S bk b k) b < S 2 (12 * k + b) then k else z_best S bk b k) ≠ bk ∧ z_sil S (12 * (if k ≠ bk ∧ z_sil S (12 * k + b) = false ∧ z_mo S (z_best S bk b k) b < S 2 (12 * k + b) then k else z_best S bk b k) + b) = false)
    by_cases c : k ≠ bk ∧ z_sil S (12 * k + b) = false ∧ z_mo S (z_best S bk b k) b < S 2 (12 * k + b)
    · rw [if_pos c]
      exact Or.inr ⟨by omega, c.1, c.2.1⟩
    · rw [if_neg c]
      rcases ih with e | e
      · exact Or.inl e
      · exact Or.inr ⟨by omega, e.2⟩
theorem z_sil_pos {S : z_S} {s : Nat} (h : z_sil S s = false) : 0 < S 2 s := by
  refine Nat.pos_of_ne_zero (fun e => ?_)
  have : z_sil S s = true := decide_eq_true (fun j hj => absurd hj (by omega))
  rw [this] at h
  exact absurd h (by decide)
def z_cueX (S : z_S) (bk b : Nat) : Nat := if 2 ≤ b ∧ b + 1 < S 0 0 ∧ z_sil S (12 * bk + (b - 2)) = true ∧ z_sil S (12 * bk + (b - 1)) = true ∧ z_sil S (12 * bk + b) = true ∧ z_sil S (12 * bk + (b + 1)) = false then z_best S bk b 5 else 6
def z_drw (S : z_S) (bk b : Nat) : Nat := if bk = 5 ∨ z_sil S (12 * bk + b) = false then bk else z_cueX S bk b
theorem z_cueX_r {S : z_S} {bk b : Nat} : z_cueX S bk b = 6 ∨ (z_cueX S bk b < 5 ∧ z_cueX S bk b ≠ bk ∧ z_sil S (12 * z_cueX S bk b + b) = false) := by
  unfold z_cueX
  split
  · exact z_best_r 5 (by omega)
  · exact Or.inl rfl
theorem z_drw_le {S : z_S} {bk b : Nat} (h : bk ≤ 5) : z_drw S bk b ≤ 6 := by
  unfold z_drw
  split
  · omega
  · rcases z_cueX_r (S := S) (bk := bk) (b := b) with e | e <;> omega
theorem x_cuePlayer {f : sx_F} {S : z_S} (Z : z_X f S) (W : z_W S) {bk b : Nat} (hk : bk < 5) (hb : b < S 0 0) {Q : Int32 → Prop} (h : Q (z_dr (z_cueX S bk b))) : P_X4_cuePlayer f (nI bk) (nI b) Q := by
  have hn := W.1
  intro B61 B62 B78 B128 h61 h62 h78 h128
  have no : ¬ (2 ≤ b ∧ b + 1 < S 0 0 ∧ z_sil S (12 * bk + (b - 2)) = true ∧ z_sil S (12 * bk + (b - 1)) = true ∧ z_sil S (12 * bk + b) = true ∧ z_sil S (12 * bk + (b + 1)) = false) → B61 := fun z => h61 (h62 _ ⟨fun _ => by
    unfold z_cueX at h
    rw [if_neg z] at h
    exact h, fun c => absurd rfl c⟩)
  refine pk_lt b 2 (fun c => no (fun z => by omega)) (fun c => ?_)
  rw [nI_1, Z.1]
  refine pk_le (S 0 0) (b + 1) (fun c1 => no (fun z => by omega)) (fun c1 => ?_)
  rw [show nI b - 2 = nI (b - 2) from pk_sub (a := b) (b := 2) c, show nI b - 1 = nI (b - 1) from pk_sub (a := b) (b := 1) (by omega)]
  refine x_isSilent Z W hk (by omega) ?_
  cases s1 : z_sil S (12 * bk + (b - 2))
  · exact ⟨fun _ => no (fun z => by rw [s1] at z; exact absurd z.2.2.1 (by decide)), fun c => absurd rfl c⟩
  refine ⟨fun c => absurd c (by decide), fun _ => x_isSilent Z W hk (by omega) ?_⟩
  cases s2 : z_sil S (12 * bk + (b - 1))
  · exact ⟨fun _ => no (fun z => by rw [s2] at z; exact absurd z.2.2.2.1 (by decide)), fun c => absurd rfl c⟩
  refine ⟨fun c => absurd c (by decide), fun _ => x_isSilent Z W hk (by omega) ?_⟩
  cases s3 : z_sil S (12 * bk + b)
  · exact ⟨fun _ => no (fun z => by rw [s3] at z; exact absurd z.2.2.2.2.1 (by decide)), fun c => absurd rfl c⟩
  refine ⟨fun c => absurd c (by decide), fun _ => x_isSilent Z W hk (by omega) ?_⟩
  cases s4 : z_sil S (12 * bk + (b + 1))
  · refine ⟨fun _ => h62 _ ⟨fun c => absurd c (by decide), fun _ => ?_⟩, fun c => absurd rfl c⟩
    unfold z_cueX at h
    rw [if_pos ⟨c, c1, s1, s2, s3, s4⟩] at h
    refine z_up (B := fun k => B78 (z_dr (z_best S bk b k)) (nI (z_mo S (z_best S bk b k) b)) (nI k)) 5 (fun k hk5 ih => h78 _ _ _ (pk_le 5 k (fun c => ?_) (fun c => x_slotOf ⟨vp_in_nI (by omega) (by omega), nm_e ?_⟩)))
    · rw [show k = 5 by omega]; exact h
    · have hs : 12 * k + b < 60 := by omega
      have hcs := W.2.2.1 _ hs
      rw [nI_clamp (by omega), Z.2.2.1 _ hs]
      have i2 := ih c
      have hle : z_mo S (z_best S bk b k) b ≤ 8 := by
        unfold z_mo
        split
        · omega
        · rcases z_best_r (S := S) (bk := bk) (b := b) k hk5 with e | e
          · omega
          · exact W.2.2.1 _ (by omega)
      have st : (k ≠ bk ∧ z_sil S (12 * k + b) = false ∧ z_mo S (z_best S bk b k) b < S 2 (12 * k + b)) → z_best S bk b (k + 1) = k := fun z => if_pos z
      have sf : ¬ (k ≠ bk ∧ z_sil S (12 * k + b) = false ∧ z_mo S (z_best S bk b k) b < S 2 (12 * k + b)) → z_best S bk b (k + 1) = z_best S bk b k := fun z => if_neg z
      have n128 : ¬ (k ≠ bk ∧ z_sil S (12 * k + b) = false ∧ z_mo S (z_best S bk b k) b < S 2 (12 * k + b)) → B128 (z_dr (z_best S bk b k)) (nI (z_mo S (z_best S bk b k) b)) (nI k) := fun z => h128 _ _ _ (nm_e (by rw [nI_1]; rw [sf z] at i2; exact i2))
      refine pk_eq k bk (fun e => n128 (fun z => z.1 e)) (fun e => pk_le (S 2 (12 * k + b)) (z_mo S (z_best S bk b k) b) (fun e1 => n128 (fun z => by omega)) (fun e1 => x_isSilent Z W c (by omega) ?_))
      cases s5 : z_sil S (12 * k + b)
      · refine ⟨fun _ => h128 _ _ _ (nm_e ?_), fun c => absurd rfl c⟩
        rw [nI_1]
        rw [st ⟨e, s5, e1⟩, z_drn (by omega), show z_mo S k b = S 2 (12 * k + b) from if_neg (by omega)] at i2
        exact i2
      · exact ⟨fun c => absurd c (by decide), fun _ => n128 (fun z => by rw [s5] at z; exact absurd z.2.1 (by decide))⟩
  · exact ⟨fun c => absurd c (by decide), fun _ => no (fun z => by rw [s4] at z; exact absurd z.2.2.2.2.2 (by decide))⟩
theorem m_cueFor {g : sx_F} {S : z_S} (M : z_M g S) (W : z_W S) {bk b : Nat} (hk : bk < 5) (hb : b < S 0 0) {Q : Int32 → Prop} (h : Q (z_dr (z_best S bk b 5))) : P_X7_cueFor g (nI bk) (nI b) Q := by
  have hn := W.1
  intro B5 B31 B32 B68 B73 B74 h5 h31 h32 h68 h73 h74
  refine z_up (B := fun k => B5 (z_dr (z_best S bk b k)) (nI k)) 5 (fun k hk5 ih => h5 _ _ (pk_le 5 k (fun c => ?_) (fun c => ?_)))
  · rw [show k = 5 by omega]; exact h
  have i2 := ih c
  have sf : ¬ (k ≠ bk ∧ z_sil S (12 * k + b) = false ∧ z_mo S (z_best S bk b k) b < S 2 (12 * k + b)) → z_best S bk b (k + 1) = z_best S bk b k := fun z => if_neg z
  have st : (k ≠ bk ∧ z_sil S (12 * k + b) = false ∧ z_mo S (z_best S bk b k) b < S 2 (12 * k + b)) → z_best S bk b (k + 1) = k := fun z => if_pos z
  have n73 : ¬ (k ≠ bk ∧ z_sil S (12 * k + b) = false ∧ z_mo S (z_best S bk b k) b < S 2 (12 * k + b)) → B73 (z_dr (z_best S bk b k)) (nI k) := fun z => h73 _ _ (h74 _ _ (nm_e (by rw [nI_1]; rw [sf z] at i2; exact i2)))
  have n31 : ¬ (k ≠ bk ∧ z_sil S (12 * k + b) = false ∧ z_mo S (z_best S bk b k) b < S 2 (12 * k + b)) → B31 (z_dr (z_best S bk b k)) (nI k) := fun z => h31 _ _ (h32 _ _ _ ⟨fun _ => n73 z, fun c => absurd rfl c⟩)
  refine pk_eq k bk (fun e => n31 (fun z => z.1 e)) (fun e => m_isSilent M W c (by omega) ?_)
  cases s5 : z_sil S (12 * k + b)
  · refine ⟨fun _ => h32 _ _ _ ⟨fun c => absurd c (by decide), fun _ => ?_⟩, fun c => absurd rfl c⟩
    have y68 : z_mo S (z_best S bk b k) b < S 2 (12 * k + b) → B68 (nI k) := fun z => h68 _ (h74 _ _ (nm_e (by rw [nI_1]; rw [st ⟨e, s5, z⟩, z_drn (by omega)] at i2; exact i2)))
    rcases z_best_r (S := S) (bk := bk) (b := b) k hk5 with e6 | ⟨e6, -, -⟩
    · rw [e6]
      rw [e6, show z_mo S 6 b = 0 from rfl] at y68
      exact ⟨fun _ => y68 (z_sil_pos s5), fun c => absurd rfl c⟩
    · have ne : z_best S bk b k ≠ 6 := by omega
      rw [show z_mo S (z_best S bk b k) b = S 2 (12 * z_best S bk b k + b) from if_neg ne] at y68 n73
      have hs : 12 * k + b < 60 := by omega
      have hs2 : 12 * z_best S bk b k + b < 60 := by omega
      have hc1 := W.2.2.1 _ hs
      have hc2 := W.2.2.1 _ hs2
      rw [z_drn ne] at n73 ⊢
      refine ⟨fun z => absurd z (z_nm (by omega)), fun _ => m_cell ⟨vp_in_nI (by omega) (by omega), m_cell ⟨vp_in_nI (by omega) (by omega), ?_⟩⟩⟩
      rw [nI_clamp (by omega), nI_clamp (by omega), M.2.2.1 _ hs, M.2.2.1 _ hs2]
      exact pk_le (S 2 (12 * k + b)) (S 2 (12 * z_best S bk b k + b)) (fun z => n73 (fun y => by omega)) (fun z => y68 z)
  · exact ⟨fun c => absurd c (by decide), fun _ => n31 (fun z => by rw [s5] at z; exact absurd z.2.1 (by decide))⟩
theorem x_drawerOf {f : sx_F} {S : z_S} (Z : z_X f S) (W : z_W S) {bk b : Nat} (hk : bk ≤ 5) (hb : b < S 0 0) (h8 : f 8 2 = nI bk) {Q : Int32 → Prop} (h : Q (z_dr (z_drw S bk b))) : P_X0_drawerOf f (nI b) Q := by
  have hn := W.1
  intro B23 h23
  rw [h8] at h23 ⊢
  unfold z_drw at h
  refine pk_eq bk 5 (fun c => h23 ?_) (fun c => x_isSilent Z W (by omega) (by omega) ?_)
  · rw [if_pos (Or.inl c), z_drn (by omega)] at h; exact h
  · cases s : z_sil S (12 * bk + b)
    · rw [if_pos (Or.inr s), z_drn (by omega)] at h
      exact ⟨fun _ => h23 h, fun c => absurd rfl c⟩
    · rw [if_neg (fun z => z.elim c (fun z => by rw [s] at z; exact absurd z (by decide)))] at h
      exact ⟨fun z => absurd z (by decide), fun _ => x_cuePlayer Z W (by omega) hb h⟩
end
section
/-! THE SPRINGS OF A BAR -/
def z_bgk (S : z_S) (s at_ : Nat) : Nat → Nat
  | 0 => 0
  | k + 1 => if z_fl S s k = at_ then (if S 4 (8 * s + k) = 0 then 1 else 2) else z_bgk S s at_ k
def z_bg (S : z_S) (s len at_ : Nat) : Nat := if z_bgk S s at_ (S 2 s) = 0 then (if z_fl S s (S 2 s) = at_ ∧ at_ < len then 1 else 0) else z_bgk S s at_ (S 2 s)
theorem z_bgk_0 {S : z_S} {s p : Nat} : ∀ k, (∀ j, j < k → z_fl S s j ≠ p) → z_bgk S s p k = 0
  | 0, _ => rfl
  | k + 1, h => by
    show (if z_fl S s k = p then (if S 4 (8 * s + k) = 0 then 1 else 2) else z_bgk S s p k) = 0
    rw [if_neg (h k (by omega))]
    exact z_bgk_0 k (fun j hj => h j (by omega))
theorem z_bgk_le {S : z_S} {s p : Nat} : ∀ k, z_bgk S s p k ≤ 2
  | 0 => Nat.zero_le _
  | k + 1 => by
    have := z_bgk_le (S := S) (s := s) (p := p) k
    show (if z_fl S s k = p then (if S 4 (8 * s + k) = 0 then 1 else 2) else z_bgk S s p k) ≤ 2
    split
    · split <;> omega
    · exact this
theorem z_bg_le {S : z_S} {s len p : Nat} : z_bg S s len p ≤ 2 := by
  unfold z_bg
  split
  · split <;> omega
  · exact z_bgk_le _
/-- the notes of a slot stand one behind the other -/
theorem z_fl_lt {S : z_S} (W : z_W S) {s : Nat} (hs : s < 60) : ∀ {a b : Nat}, a < b → b ≤ S 2 s → z_fl S s a < z_fl S s b := by
  intro a b h
  induction b with
  | zero => omega
  | succ b ih =>
    intro hb
    have h1 := W.2.2.2.2.1 s b hs (by omega)
    have e : z_fl S s (b + 1) = z_fl S s b + S 3 (8 * s + b) := rfl
    by_cases c : a = b
    · rw [c, e]; omega
    · have := ih (by omega) (by omega)
      omega
def z_ap (v : Int32) (q : Nat) : Int32 := if q = 0 then v else if v = -1 then (if q = 2 then 1 else 0) else (if q = 2 then v + 1 else v)
theorem z_ap0 (v : Int32) : z_ap v 0 = v := rfl
theorem x_addPlace {f : sx_F} {p : Nat} {q : Bool} {Q : sx_F → Prop} (hp : p < 32) (h : ∀ f' : sx_F, (∀ k, k ≠ 13 → f' k = f k) → (∀ x, x ≠ p → f' 13 x = f 13 x) → f' 13 p = z_ap (f 13 p) (if q then 2 else 1) → Q f') : P_X5_addPlace f (nI p) (z_b q) Q := by
  intro B17 h17
  rw [nI_clamp (by omega)] at h17 ⊢
  have vi : vp_in (nI p) 32 := vp_in_nI (by omega) (by omega)
  have two : ∀ g : sx_F, (∀ k, k ≠ 13 → g k = f k) → (∀ x, x ≠ p → g 13 x = f 13 x) → g 13 p = z_ap (f 13 p) 1 → B17 g := by
    intro g g1 g2 g3
    refine h17 g ?_
    cases q
    · exact ⟨fun _ => h g g1 g2 g3, fun c => absurd rfl c⟩
    · refine ⟨fun c => absurd c (by decide), fun _ => ⟨vi, vi, nm_e (h _ (fun k hk => by rw [sx_u_n hk]; exact g1 k hk) (fun x hx => by rw [sx_u_s, pk_un hx]; exact g2 x hx) ?_)⟩⟩
      rw [sx_u_s, pk_us, g3]
      unfold z_ap
      by_cases c : f 13 p = -1
      · rw [if_neg (by decide), if_pos c, if_neg (by decide), if_pos rfl, if_neg (by decide), if_pos c, if_pos rfl]; rfl
      · rw [if_neg (by decide), if_neg c, if_neg (by decide), if_pos rfl, if_neg (by decide), if_neg c, if_pos rfl]
  refine ⟨vi, fun c => ⟨vi, nm_e (two _ (fun k hk => sx_u_n hk) (fun x hx => by rw [sx_u_s, pk_un hx]) ?_)⟩, fun c => two f (fun _ _ => rfl) (fun _ _ => rfl) ?_⟩
  · rw [sx_u_s, pk_us]
    unfold z_ap
    rw [if_neg (by decide), if_pos c, if_neg (by decide)]
  · unfold z_ap
    rw [if_neg (by decide), if_neg c, if_neg (by decide)]
theorem x_addPlaces {f : sx_F} {S : z_S} {s len : Nat} {Q : sx_F → Prop} (Z : z_X f S) (W : z_W S) (hs : s < 60) (hl : len ≤ 32) (hf : z_fl S s (S 2 s) ≤ len) (h : ∀ f' : sx_F, (∀ k, k ≠ 13 → f' k = f k) → (∀ p, p < len → f' 13 p = z_ap (f 13 p) (z_bg S s len p)) → Q f') : P_X5_addPlaces f (nI s) (nI len) Q := by
  intro B6 B41 B62 h6 h41 h62
  have hc := W.2.2.1 s hs
  have key : ∀ f' : sx_F, (∀ k, k ≠ 13 → f' k = f k) → (∀ p, f' 13 p = z_ap (f 13 p) (z_bgk S s p 0)) → B6 f' (nI (z_fl S s 0)) (nI 0) := by
    refine z_up (B := fun k => ∀ f' : sx_F, (∀ k, k ≠ 13 → f' k = f k) → (∀ p, f' 13 p = z_ap (f 13 p) (z_bgk S s p k)) → B6 f' (nI (z_fl S s k)) (nI k)) (S 2 s) (fun k hk ih => ?_)
    intro f' f1 f2
    have Z' : z_X f' S := z_Xc Z (f1 1 (by decide)) (f1 2 (by decide)) (f1 5 (by decide)) (f1 6 (by decide)) (f1 7 (by decide))
    have hle := z_fl_le (S := S) s hk
    refine h6 _ _ _ ⟨vp_in_nI (by omega) (by omega), ?_⟩
    rw [nI_clamp (by omega), Z'.2.2.1 s hs]
    refine pk_le (S 2 s) k (fun c => ?_) (fun c => ?_)
    · have e : k = S 2 s := by omega
      subst e
      refine h62 _ _ (pk_le len (z_fl S s (S 2 s)) (fun c1 => h f' f1 (fun p hp => ?_)) (fun c1 => x_addPlace (q := false) (by omega) (fun f2' g1 g2 g3 => h f2' (fun k hk => by rw [g1 k hk]; exact f1 k hk) (fun p hp => ?_))))
      · rw [f2 p]
        unfold z_bg
        rw [if_neg (show ¬ (z_fl S s (S 2 s) = p ∧ p < len) by omega)]
        split
        · rename_i e; rw [e]
        · rfl
      · by_cases e : p = z_fl S s (S 2 s)
        · have z0 : z_bgk S s p (S 2 s) = 0 := z_bgk_0 _ (fun j hj => by have := z_fl_lt W hs hj (Nat.le_refl _); omega)
          rw [e, g3, f2, ← e, z0]
          unfold z_bg
          rw [if_pos z0, if_pos (show z_fl S s (S 2 s) = p ∧ p < len from ⟨e.symm, hp⟩)]
          rfl
        · rw [g2 p e, f2 p]
          unfold z_bg
          rw [if_neg (show ¬ (z_fl S s (S 2 s) = p ∧ p < len) by omega)]
          split
          · rename_i e; rw [e]
          · rfl
    · have lt := z_fl_lt W hs c (Nat.le_refl _)
      have st : ∀ q : Bool, (q = decide (¬ S 4 (8 * s + k) = 0)) → B41 f' (nI (z_fl S s k)) (nI k) (nI (z_fl S s k)) (z_b q) := by
        intro q hq
        refine h41 _ _ _ _ _ (x_addPlace (by omega) (fun f2' g1 g2 g3 => ?_))
        have Z2 : z_X f2' S := z_Xc Z' (g1 1 (by decide)) (g1 2 (by decide)) (g1 5 (by decide)) (g1 6 (by decide)) (g1 7 (by decide))
        refine x_lengthAt Z2 hs (by omega) (nm_e (nm_e ?_))
        rw [nI_add, nI_1]
        refine ih c f2' (fun k hk => by rw [g1 k hk]; exact f1 k hk) (fun p => ?_)
        show f2' 13 p = z_ap (f 13 p) (if z_fl S s k = p then (if S 4 (8 * s + k) = 0 then 1 else 2) else z_bgk S s p k)
        by_cases e : z_fl S s k = p
        · have z0 : z_bgk S s p k = 0 := z_bgk_0 _ (fun j hj => by have := z_fl_lt W hs hj (Nat.le_of_lt c); omega)
          rw [if_pos e, ← e, g3, f2, e, z0, hq]
          by_cases z : S 4 (8 * s + k) = 0
          · rw [if_pos z, decide_eq_false (fun y => y z)]; rfl
          · rw [if_neg z, decide_eq_true z]; rfl
        · rw [if_neg e, g2 p (fun z => e z.symm), f2 p]
      refine pk_le len (z_fl S s k) (fun c1 => absurd c1 (by omega)) (fun _ => x_pitchAt Z' hs (by omega) ?_)
      have hp60 := (W.2.2.2.1 (8 * s + k) (by omega)).2
      refine pk_le (S 4 (8 * s + k)) 0 (fun z => ?_) (fun z => ?_)
      · exact st false (by rw [decide_eq_false (by omega)])
      · exact st true (by rw [decide_eq_true (by omega)])
  exact key f (fun _ _ => rfl) (fun p => (z_ap0 _).symm)
end
section
def z_in (dr k : Nat) : Bool := decide (dr = 5 ∨ dr = k)
def z_bn (S : z_S) (dr b p : Nat) : Nat → Nat := z_cnt (fun k => z_in dr k && decide (0 < z_bg S (12 * k + b) (S 1 b) p))
def z_sn (S : z_S) (dr b p : Nat) : Nat → Nat := z_cnt (fun k => z_in dr k && decide (z_bg S (12 * k + b) (S 1 b) p = 2))
def z_pl (S : z_S) (dr b p : Nat) : Bool := decide (0 < z_bn S dr b p 5)
def z_so (S : z_S) (dr b p m : Nat) : Int32 := if z_bn S dr b p m = 0 then -1 else nI (z_sn S dr b p m)
theorem z_sn_le {S : z_S} {dr b p : Nat} (m : Nat) : z_sn S dr b p m ≤ m := z_cnt_le m
theorem z_cnt_s (p : Nat → Bool) (k : Nat) : z_cnt p (k + 1) = z_cnt p k + (if p k then 1 else 0) := rfl
theorem z_so_s {S : z_S} {dr b p m : Nat} (hm : m < 5) : z_so S dr b p (m + 1) = if z_in dr m then z_ap (z_so S dr b p m) (z_bg S (12 * m + b) (S 1 b) p) else z_so S dr b p m := by
  have h2 := z_bg_le (S := S) (s := 12 * m + b) (len := S 1 b) (p := p)
  have hs := z_sn_le (S := S) (dr := dr) (b := b) (p := p) m
  have eb : z_bn S dr b p (m + 1) = z_bn S dr b p m + (if z_in dr m && decide (0 < z_bg S (12 * m + b) (S 1 b) p) then 1 else 0) := rfl
  have es : z_sn S dr b p (m + 1) = z_sn S dr b p m + (if z_in dr m && decide (z_bg S (12 * m + b) (S 1 b) p = 2) then 1 else 0) := rfl
  unfold z_so
  rw [eb, es]
  cases z_in dr m
  · simp
  · generalize z_bg S (12 * m + b) (S 1 b) p = q at h2
    unfold z_ap
    rcases (show q = 0 ∨ q = 1 ∨ q = 2 by omega) with rfl | rfl | rfl
    · simp
    · by_cases c : z_bn S dr b p m = 0
      · have c' : z_sn S dr b p m = 0 := by
          unfold z_bn at c
          unfold z_sn
          rw [z_cnt_0] at c ⊢
          intro j hj
          have := c j hj
          simp only [Bool.and_eq_false_iff, decide_eq_false_iff_not] at this ⊢
          rcases this with z | z
          · exact Or.inl z
          · exact Or.inr (by omega)
        simp [c, c', nI_0]
      · simp [c, z_nm (show z_sn S dr b p m < 2 ^ 31 by omega)]
    · by_cases c : z_bn S dr b p m = 0
      · have c' : z_sn S dr b p m = 0 := by
          unfold z_bn at c
          unfold z_sn
          rw [z_cnt_0] at c ⊢
          intro j hj
          have := c j hj
          simp only [Bool.and_eq_false_iff, decide_eq_false_iff_not] at this ⊢
          rcases this with z | z
          · exact Or.inl z
          · exact Or.inr (by omega)
        simp [c, c']; rfl
      · simp [c, z_nm (show z_sn S dr b p m < 2 ^ 31 by omega), nI_succ]
def z_nx (p : Nat → Bool) : Nat → Nat → Nat | 0, a => a | d + 1, a => if p a then a else z_nx p d (a + 1)
def z_hv : Nat → Nat → Nat | 0, _ => 0 | d + 1, l => if l ≤ 1 then 0 else z_hv d (l / 2) + 1
theorem z_nx_le {p : Nat → Bool} : ∀ d a, a ≤ z_nx p d a ∧ z_nx p d a ≤ a + d
  | 0, a => ⟨Nat.le_refl _, Nat.le_refl _⟩
  | d + 1, a => by
    have := z_nx_le (p := p) d (a + 1)
    show a ≤ (if p a then a else z_nx p d (a + 1)) ∧ (if p a then a else z_nx p d (a + 1)) ≤ a + (d + 1)
    split <;> omega
theorem z_hv_le : ∀ d l, z_hv d l ≤ d
  | 0, _ => Nat.le_refl _
  | d + 1, l => by
    have := z_hv_le d (l / 2)
    show (if l ≤ 1 then 0 else z_hv d (l / 2) + 1) ≤ d + 1
    split <;> omega
theorem x_nextPlace {f : sx_F} {p len : Nat} {P : Nat → Bool} {Q : Int32 → Prop} (hl : len ≤ 32) (hp : p < len) (hs : ∀ q, q < len → (f 13 q = -1 ↔ P q = false)) (h : Q (nI (z_nx P (len - (p + 1)) (p + 1)))) : P_X5_nextPlace f (nI p) (nI len) Q := by
  intro B4 h4
  refine nm_e ?_
  rw [nI_1]
  have key : ∀ d a, a + d = len → Q (nI (z_nx P d a)) → B4 (nI a) := by
    intro d
    induction d with
    | zero =>
      intro a ha hq
      refine h4 _ (pk_le len a (fun _ => ?_) (fun c => absurd c (by omega)))
      rw [show len = a by omega]; exact hq
    | succ d ih =>
      intro a ha hq
      refine h4 _ (pk_le len a (fun c => absurd c (by omega)) (fun c => ⟨vp_in_nI (by omega) (by omega), ?_⟩))
      rw [nI_clamp (by omega)]
      have e : z_nx P (d + 1) a = if P a then a else z_nx P d (a + 1) := rfl
      rw [e] at hq
      cases hP : P a
      · rw [hP] at hq
        refine ⟨fun _ => nm_e ?_, fun z => absurd ((hs a c).mpr hP) z⟩
        rw [nI_1]; exact ih (a + 1) (by omega) hq
      · rw [hP] at hq
        refine ⟨fun z => ?_, fun _ => hq⟩
        have := (hs a c).mp z
        rw [hP] at this; exact absurd this (by decide)
  exact key (len - (p + 1)) (p + 1) (by omega) h
theorem x_naturalWidth {f : sx_F} {l : Nat} {Q : Int32 → Prop} (hl : l < 2 ^ 6) (h : Q (nI (6 + 3 * z_hv 6 l))) : P_X5_naturalWidth f (nI l) Q := by
  intro B5 h5
  have key : ∀ d l a, l < 2 ^ d → d ≤ 6 → Q (nI (a + 3 * z_hv d l)) → B5 (nI a) (nI l) := by
    intro d
    induction d with
    | zero =>
      intro l a hl _ hq
      exact h5 _ _ (pk_le l 1 (fun _ => hq) (fun c => absurd c (by omega)))
    | succ d ih =>
      intro l a hl hd hq
      have hl' : l < 2 ^ d * 2 := by rw [← Nat.pow_succ]; exact hl
      have h2 : 2 ^ d ≤ 2 ^ 6 := Nat.pow_le_pow_right (by decide) (by omega)
      refine h5 _ _ (pk_le l 1 (fun c => ?_) (fun c => nm_e (nm_e ?_)))
      · rw [show z_hv (d + 1) l = 0 from if_pos c] at hq; exact hq
      · rw [show z_hv (d + 1) l = z_hv d (l / 2) + 1 from if_neg (by omega), show a + 3 * (z_hv d (l / 2) + 1) = (a + 3) + 3 * z_hv d (l / 2) by omega] at hq
        have e : nI l / 2 = nI (l / 2) := pk_div (a := l) (d := 2) (by omega) (by omega) (by omega)
        rw [e]
        rw [show nI a + 3 = nI (a + 3) from nI_add a 3]
        exact ih (l / 2) (a + 3) (by omega) (by omega) hq
  exact key 6 l 6 hl (by omega) h
theorem z_cnt_mono {p : Nat → Bool} {a b : Nat} (h : a ≤ b) : z_cnt p a ≤ z_cnt p b := by
  induction b with
  | zero => rw [show a = 0 by omega]; exact Nat.le_refl _
  | succ b ih =>
    by_cases e : a = b + 1
    · rw [e]; exact Nat.le_refl _
    · rw [z_cnt_s]; exact Nat.le_trans (ih (by omega)) (Nat.le_add_right _ _)
theorem z_cnt_lt {p : Nat → Bool} {a b : Nat} (h : a < b) (hp : p a = true) : z_cnt p a < z_cnt p b := by
  have := z_cnt_mono (p := p) (show a + 1 ≤ b from h)
  rw [z_cnt_s, hp] at this
  exact this
def z_le (S : z_S) (dr b p : Nat) : Nat := 4 + z_sn S dr b p 5
def z_wd (S : z_S) (dr b p : Nat) : Nat := if 6 + 3 * z_hv 6 (z_nx (z_pl S dr b) (S 1 b - (p + 1)) (p + 1) - p) < z_le S dr b p then z_le S dr b p else 6 + 3 * z_hv 6 (z_nx (z_pl S dr b) (S 1 b - (p + 1)) (p + 1) - p)
def z_ws (S : z_S) (dr b : Nat) : Nat → Nat := z_sm (fun p => if z_pl S dr b p then z_wd S dr b p else 0)
def z_ls (S : z_S) (dr b : Nat) : Nat → Nat := z_sm (fun p => if z_pl S dr b p then z_le S dr b p else 0)
def z_pc (S : z_S) (dr b : Nat) : Nat → Nat := z_cnt (z_pl S dr b)
/-- the springs of a bar up to a sixteenth, as they stand in the class's rows -/
def z_sp (f : sx_F) (S : z_S) (dr b e : Nat) : Prop := f 9 0 = nI (z_pc S dr b e) ∧ (∀ q, q < e → z_pl S dr b q = true → f 10 (z_pc S dr b q) = nI q) ∧ ∀ q, q ≤ e → f 11 (z_pc S dr b q) = nI (z_ws S dr b q) ∧ f 12 (z_pc S dr b q) = nI (z_ls S dr b q)
theorem x_addSpring {f : sx_F} {c : Nat} {x1 x2 x3 : Int32} {Q : sx_F → Prop} (h0 : f 9 0 = nI c) (hc : c < 32) (h : ∀ f' : sx_F, (∀ k, k ≠ 9 → k ≠ 10 → k ≠ 11 → k ≠ 12 → f' k = f k) → f' 9 0 = nI (c + 1) → f' 10 = upd (f 10) c x1 → f' 11 = upd (f 11) (c + 1) (f 11 c + x2) → f' 12 = upd (f 12) (c + 1) (f 12 c + x3) → Q f') : P_X5_addSpring f x1 x2 x3 Q := by
  unfold P_X5_addSpring
  rw [h0, nI_clamp (by omega)]
  refine ⟨vp_in_nI (by omega) (by omega), nm_e ?_⟩
  simp (disch := decide) only [sx_u_n]
  rw [h0, nI_1, nI_clamp (by omega), nI_clamp (by omega)]
  refine ⟨vp_in_nI (by omega) (by omega), vp_in_nI (by omega) (by omega), nm_e ?_⟩
  simp (disch := decide) only [sx_u_n]
  rw [h0, nI_1, nI_clamp (by omega), nI_clamp (by omega)]
  refine ⟨vp_in_nI (by omega) (by omega), vp_in_nI (by omega) (by omega), nm_e (nm_e ?_)⟩
  simp (disch := decide) only [sx_u_n]
  rw [h0, nI_1]
  refine h _ (fun k h9 h10 h11 h12 => by rw [sx_u_n h9, sx_u_n h12, sx_u_n h11, sx_u_n h10]) (by rw [sx_u_s, pk_us]) ?_ ?_ ?_
  · simp (disch := decide) only [sx_u_n, sx_u_s]
  · simp (disch := decide) only [sx_u_n, sx_u_s]
  · simp (disch := decide) only [sx_u_n, sx_u_s]
theorem z_sn_5 {S : z_S} {dr b p : Nat} : z_sn S dr b p 5 ≤ 5 := z_cnt_le 5
theorem x_addSprings {f : sx_F} {S : z_S} {dr b : Nat} {Q : sx_F → Prop} (hl : S 1 b ≤ 32) (h13 : ∀ q, q < S 1 b → f 13 q = z_so S dr b q 5) (h0 : z_sp f S dr b 0) (h : ∀ f' : sx_F, (∀ k, k ≠ 9 → k ≠ 10 → k ≠ 11 → k ≠ 12 → f' k = f k) → z_sp f' S dr b (S 1 b) → Q f') : P_X5_addSprings f (nI (S 1 b)) Q := by
  have so : ∀ q, z_so S dr b q 5 = -1 ↔ z_pl S dr b q = false := fun q => by
    unfold z_so z_pl
    have := z_sn_5 (S := S) (dr := dr) (b := b) (p := q)
    by_cases c : z_bn S dr b q 5 = 0
    · rw [if_pos c, decide_eq_false (by omega)]; exact ⟨fun _ => rfl, fun _ => rfl⟩
    · rw [if_neg c, decide_eq_true (by omega)]; exact ⟨fun z => absurd z (z_nm (by omega)), fun z => absurd z (by decide)⟩
  intro B2 B51 h2 h51
  have key : ∀ f' : sx_F, (∀ k, k ≠ 9 → k ≠ 10 → k ≠ 11 → k ≠ 12 → f' k = f k) → z_sp f' S dr b 0 → B2 f' (nI 0) := by
    refine z_up (B := fun p => ∀ f' : sx_F, (∀ k, k ≠ 9 → k ≠ 10 → k ≠ 11 → k ≠ 12 → f' k = f k) → z_sp f' S dr b p → B2 f' (nI p)) (S 1 b) (fun p hp ih => ?_)
    intro f' f1 f2
    refine h2 _ _ (pk_le (S 1 b) p (fun c => ?_) (fun c => ?_))
    · rw [show p = S 1 b by omega] at f2; exact h f' f1 f2
    have hcp : z_pc S dr b p ≤ p := z_cnt_le p
    rw [nI_clamp (n := p) (by omega), f1 13 (by decide) (by decide) (by decide) (by decide), h13 p c]
    have epc : z_pc S dr b (p + 1) = z_pc S dr b p + (if z_pl S dr b p then 1 else 0) := rfl
    have ews : z_ws S dr b (p + 1) = z_ws S dr b p + (if z_pl S dr b p then z_wd S dr b p else 0) := rfl
    have els : z_ls S dr b (p + 1) = z_ls S dr b p + (if z_pl S dr b p then z_le S dr b p else 0) := rfl
    refine ⟨vp_in_nI (by omega) (by omega), fun z => ?_, fun z => ⟨vp_in_nI (by omega) (by omega), nm_e ?_⟩⟩
    · have e := (so p).mp z
      rw [e] at epc ews els
      refine h51 _ _ (nm_e ?_)
      rw [nI_1]
      refine ih c f' f1 ⟨by rw [epc]; exact f2.1, fun q hq hq2 => ?_, fun q hq => ?_⟩
      · by_cases eq : q = p
        · rw [eq, e] at hq2; exact absurd hq2 (by decide)
        · exact f2.2.1 q (by omega) hq2
      · by_cases eq : q = p + 1
        · rw [eq, epc, ews, els]; exact f2.2.2 p (Nat.le_refl _)
        · exact f2.2.2 q (by omega)
    · have e : z_pl S dr b p = true := by
        cases y : z_pl S dr b p
        · exact absurd ((so p).mpr y) z
        · rfl
      have sne : z_so S dr b p 5 = nI (z_sn S dr b p 5) := by
        unfold z_so at z ⊢
        split
        · rename_i y; rw [if_pos y] at z; exact absurd rfl z
        · rfl
      rw [e] at epc ews els
      rw [sne, show (4 : Int32) + nI (z_sn S dr b p 5) = nI (z_le S dr b p) from nI_add 4 _]
      have hnx := z_nx_le (p := z_pl S dr b) (S 1 b - (p + 1)) (p + 1)
      refine x_nextPlace (P := z_pl S dr b) hl c (fun q hq => by rw [f1 13 (by decide) (by decide) (by decide) (by decide), h13 q hq]; exact so q) ?_
      rw [pk_sub (by omega)]
      refine x_naturalWidth (by omega) ?_
      have hhv := z_hv_le 6 (z_nx (z_pl S dr b) (S 1 b - (p + 1)) (p + 1) - p)
      have h5 := z_sn_5 (S := S) (dr := dr) (b := b) (p := p)
      have ewd : (if nI (6 + 3 * z_hv 6 (z_nx (z_pl S dr b) (S 1 b - (p + 1)) (p + 1) - p)) < nI (z_le S dr b p) then nI (z_le S dr b p) else nI (6 + 3 * z_hv 6 (z_nx (z_pl S dr b) (S 1 b - (p + 1)) (p + 1) - p))) = nI (z_wd S dr b p) := by
        unfold z_wd
        by_cases y : 6 + 3 * z_hv 6 (z_nx (z_pl S dr b) (S 1 b - (p + 1)) (p + 1) - p) < z_le S dr b p
        · rw [if_pos y, if_pos (nI_lt y (by unfold z_le; omega))]
        · rw [if_neg y, if_neg (nI_nlt (by omega) (by omega))]
      rw [ewd]
      refine x_addSpring f2.1 (by omega) (fun f3 g1 g2 g3 g4 g5 => h51 _ _ (nm_e ?_))
      rw [nI_1]
      refine ih c f3 (fun k a1 a2 a3 a4 => by rw [g1 k a1 a2 a3 a4]; exact f1 k a1 a2 a3 a4) ⟨by rw [epc]; exact g2, fun q hq hq2 => ?_, fun q hq => ?_⟩
      · rw [g3]
        by_cases eq : q = p
        · rw [eq, pk_us]
        · have := z_cnt_lt (p := z_pl S dr b) (show q < p by omega) hq2
          rw [pk_un (by show z_cnt (z_pl S dr b) q ≠ z_cnt (z_pl S dr b) p; omega)]
          exact f2.2.1 q (by omega) hq2
      · rw [g4, g5]
        by_cases eq : q = p + 1
        · rw [eq, epc, ews, els]
          simp only [if_true]
          rw [pk_us, pk_us, (f2.2.2 p (Nat.le_refl _)).1, (f2.2.2 p (Nat.le_refl _)).2, nI_add, nI_add]
          exact ⟨rfl, rfl⟩
        · have := z_cnt_mono (p := z_pl S dr b) (show q ≤ p by omega)
          have ne : z_pc S dr b q ≠ z_pc S dr b p + 1 := by show z_cnt (z_pl S dr b) q ≠ z_cnt (z_pl S dr b) p + 1; omega
          rw [pk_un ne, pk_un ne]
          exact f2.2.2 q (by omega)
  exact key f (fun _ _ _ _ _ => rfl) h0
theorem x_fill {f : sx_F} {k0 N : Nat} {v : Int32} {Q : sx_F → Prop} (hN : N < 1000) (h : ∀ f' : sx_F, (∀ k, k ≠ k0 → f' k = f k) → (∀ x, x < N → f' k0 x = v) → Q f') : P_J7_fill_53178 f k0 N v Q := by
  intro B5 h5
  refine nm_e ?_
  have key : ∀ f' : sx_F, (∀ k, k ≠ k0 → f' k = f k) → (∀ x, x < 0 → f' k0 x = v) → B5 f' (nI 0) (nI N) := by
    refine z_up (B := fun i => ∀ f' : sx_F, (∀ k, k ≠ k0 → f' k = f k) → (∀ x, x < i → f' k0 x = v) → B5 f' (nI i) (nI N)) N (fun i hi ih => ?_)
    intro f' f1 f2
    refine h5 _ _ _ (pk_le N i (fun c => h f' f1 (fun x hx => f2 x (by omega))) (fun c => ⟨vp_in_nI (by omega) (by omega), nm_e (nm_e ?_)⟩))
    rw [nI_1, nI_clamp (by omega)]
    refine ih c _ (fun k hk => by rw [sx_u_n hk]; exact f1 k hk) (fun x hx => ?_)
    rw [sx_u_s]
    by_cases e : x = i
    · rw [e, pk_us]
    · rw [pk_un e]; exact f2 x (by omega)
  exact key f (fun _ _ => rfl) (fun x hx => absurd hx (by omega))
/-- what a drawing leaves: a bar of a drawer, or a rest -/
def z_dn (f : sx_F) (S : z_S) (dr b : Nat) : Prop := f 11 0 = 0 ∧ f 12 0 = 0 ∧ ((dr = 6 ∧ f 9 0 = 1 ∧ f 10 0 = 0 ∧ f 11 1 = 24 ∧ f 12 1 = 16) ∨ (dr ≠ 6 ∧ z_sp f S dr b (S 1 b)))
theorem x_draw {f : sx_F} {S : z_S} {dr b : Nat} {Q : sx_F → Prop} (Z : z_X f S) (W : z_W S) (hd : dr ≤ 6) (hb : b < S 0 0) (h11 : f 11 0 = 0) (h12 : f 12 0 = 0) (h : ∀ f' : sx_F, (∀ k, k ≠ 9 → k ≠ 10 → k ≠ 11 → k ≠ 12 → k ≠ 13 → f' k = f k) → z_dn f' S dr b → Q f') : P_X5_draw f (z_dr dr) (nI b) Q := by
  have hn := W.1
  have hlen := W.2.1 b hb
  intro B31 B48 B65 h31 h48 h65
  refine nm_e ?_
  by_cases e6 : dr = 6
  · rw [e6]
    refine ⟨fun _ => ?_, fun c => absurd rfl c⟩
    refine x_addSpring (c := 0) (by rw [sx_u_s, pk_us]; rfl) (by omega) (fun f' g1 g2 g3 g4 g5 => h f' (fun k h9 h10 h11 h12 h13 => by rw [g1 k h9 h10 h11 h12, sx_u_n h9]) ?_)
    refine ⟨?_, ?_, Or.inl ⟨e6, g2, ?_, ?_, ?_⟩⟩
    · rw [g4, pk_un (by decide), sx_u_n (by decide)]; exact h11
    · rw [g5, pk_un (by decide), sx_u_n (by decide)]; exact h12
    · rw [g3, pk_us]
    · rw [g4, pk_us, sx_u_n (by decide), h11]; rfl
    · rw [g5, pk_us, sx_u_n (by decide), h12]; rfl
  · have ed : z_dr dr = nI dr := z_drn e6
    rw [ed] at h31 ⊢
    refine ⟨fun c => absurd c (z_nm (by omega)), fun _ => x_fill (by omega) (fun f0 a1 a2 => ?_)⟩
    have key : ∀ f' : sx_F, (∀ k, k ≠ 9 → k ≠ 13 → f' k = f k) → f' 9 0 = 0 → (∀ q, q < S 1 b → f' 13 q = z_so S dr b q 0) → B31 f' (nI 0) := by
      refine z_up (B := fun i => ∀ f' : sx_F, (∀ k, k ≠ 9 → k ≠ 13 → f' k = f k) → f' 9 0 = 0 → (∀ q, q < S 1 b → f' 13 q = z_so S dr b q i) → B31 f' (nI i)) 5 (fun i hi ih => ?_)
      intro f' f1 f2 f3
      have Z' : z_X f' S := z_Xc Z (f1 1 (by decide) (by decide)) (f1 2 (by decide) (by decide)) (f1 5 (by decide) (by decide)) (f1 6 (by decide) (by decide)) (f1 7 (by decide) (by decide))
      refine h31 _ _ (pk_le 5 i (fun c => ⟨vp_in_nI (by omega) (by omega), ?_⟩) (fun c => ?_))
      · rw [nI_clamp (by omega), Z'.2.1 b (by omega)]
        have e5 : i = 5 := by omega
        subst e5
        refine x_addSprings (dr := dr) hlen.2 f3 ⟨f2, fun q hq => absurd hq (by omega), fun q hq => ?_⟩ (fun f4 g1 g2 => h f4 (fun k h9 h10 h11 h12 h13 => by rw [g1 k h9 h10 h11 h12]; exact f1 k h9 h13) ?_)
        · rw [show q = 0 by omega]
          exact ⟨by rw [show z_pc S dr b 0 = 0 from rfl, f1 11 (by decide) (by decide), h11]; rfl, by rw [show z_pc S dr b 0 = 0 from rfl, f1 12 (by decide) (by decide), h12]; rfl⟩
        · exact ⟨(g2.2.2 0 (by omega)).1, (g2.2.2 0 (by omega)).2, Or.inr ⟨e6, g2⟩⟩
      · have go : z_in dr i = true → B48 f' (nI i) := fun z => h48 _ _ (x_slotOf ⟨vp_in_nI (by omega) (by omega), by
          rw [nI_clamp (by omega), Z'.2.1 b (by omega)]
          refine x_addPlaces Z' W (by omega) hlen.2 (W.2.2.2.2.2.1 i b c hb) (fun f4 g1 g2 => h65 _ _ (nm_e ?_))
          rw [nI_1]
          refine ih c f4 (fun k h9 h13 => by rw [g1 k h13]; exact f1 k h9 h13) (by rw [g1 9 (by decide)]; exact f2) (fun q hq => ?_)
          rw [g2 q hq, f3 q hq, z_so_s c, z, if_pos rfl]⟩)
        have pass : z_in dr i = false → B65 f' (nI i) := fun z => h65 _ _ (nm_e (by
          rw [nI_1]
          refine ih c f' f1 f2 (fun q hq => ?_)
          rw [f3 q hq, z_so_s c, z]; rfl))
        refine pk_eq dr 5 (fun c5 => go (decide_eq_true (Or.inl c5))) (fun c5 => pk_eq dr i (fun ci => go (decide_eq_true (Or.inr ci))) (fun ci => pass (decide_eq_false (fun y => y.elim c5 ci))))
    exact key f0 (fun k h9 h13 => by rw [a1 k h13, sx_u_n h9]) (by rw [a1 9 (by decide), sx_u_s, pk_us]) (fun q hq => by rw [a2 q (by omega)]; rfl)
end
section
def z_new (S : z_S) (bk b : Nat) : Bool := decide (¬ (0 < b ∧ z_drw S bk b = 6 ∧ z_drw S bk (b - 1) = 6))
def z_it (S : z_S) (bk : Nat) : Nat → Nat := z_cnt (z_new S bk)
def z_Wb (S : z_S) (dr b : Nat) : Nat := if dr = 6 then 24 else z_ws S dr b (S 1 b)
def z_Lb (S : z_S) (dr b : Nat) : Nat := if dr = 6 then 16 else z_ls S dr b (S 1 b)
def z_wsum (S : z_S) (bk : Nat) : Nat → Nat := z_sm (fun b => if z_new S bk b then z_Wb S (z_drw S bk b) b else 0)
def z_lsum (S : z_S) (bk : Nat) : Nat → Nat := z_sm (fun b => if z_new S bk b then z_Lb S (z_drw S bk b) b else 0)
/-- the items of a book's first bars, as they stand in the class's rows -/
def z_G (f : sx_F) (S : z_S) (bk e : Nat) : Prop := f 8 3 = nI (z_it S bk e) ∧ (∀ b, b < e → z_new S bk b = true → f 14 (z_it S bk b) = nI b ∧ f 16 (z_it S bk b) = z_dr (z_drw S bk b)) ∧ (∀ b, b < e → f 15 b = nI (z_it S bk (b + 1) - 1)) ∧ (∀ b, b ≤ e → f 17 (z_it S bk b) = nI (z_wsum S bk b) ∧ f 18 (z_it S bk b) = nI (z_lsum S bk b)) ∧ (0 < e → f 16 (z_it S bk e - 1) = z_dr (z_drw S bk (e - 1)))
theorem z_it_s (S : z_S) (bk b : Nat) : z_it S bk (b + 1) = z_it S bk b + (if z_new S bk b then 1 else 0) := rfl
theorem z_new0 (S : z_S) (bk : Nat) : z_new S bk 0 = true := decide_eq_true (fun z => absurd z.1 (by omega))
theorem z_it_pos {S : z_S} {bk e : Nat} (h : 0 < e) : 0 < z_it S bk e := Nat.lt_of_le_of_lt (Nat.zero_le _) (z_cnt_lt (p := z_new S bk) h (z_new0 S bk))
theorem x_widthOfAll {f : sx_F} {S : z_S} {dr b : Nat} {Q : Int32 → Prop} (hl : S 1 b ≤ 32) (h : z_dn f S dr b) (hq : Q (nI (z_Wb S dr b))) : P_X5_widthOfAll f Q := by
  unfold P_X5_widthOfAll
  rcases h.2.2 with ⟨h1, h2, h3, h4, h5⟩ | ⟨h1, h2, h3, h4⟩
  · rw [h2]
    exact ⟨by unfold vp_in; decide, by rw [show (1 : Int32).toNatClampNeg = 1 by decide, h4]; rw [show z_Wb S dr b = 24 from if_pos h1] at hq; exact hq⟩
  · have := z_cnt_le (p := z_pl S dr b) (S 1 b)
    have e : z_pc S dr b (S 1 b) ≤ S 1 b := this
    rw [h2, nI_clamp (by omega), (h4 _ (Nat.le_refl _)).1]
    rw [show z_Wb S dr b = z_ws S dr b (S 1 b) from if_neg h1] at hq
    exact ⟨vp_in_nI (by omega) (by omega), hq⟩
theorem x_leastOfAll {f : sx_F} {S : z_S} {dr b : Nat} {Q : Int32 → Prop} (hl : S 1 b ≤ 32) (h : z_dn f S dr b) (hq : Q (nI (z_Lb S dr b))) : P_X5_leastOfAll f Q := by
  unfold P_X5_leastOfAll
  rcases h.2.2 with ⟨h1, h2, h3, h4, h5⟩ | ⟨h1, h2, h3, h4⟩
  · rw [h2]
    exact ⟨by unfold vp_in; decide, by rw [show (1 : Int32).toNatClampNeg = 1 by decide, h5]; rw [show z_Lb S dr b = 16 from if_pos h1] at hq; exact hq⟩
  · have := z_cnt_le (p := z_pl S dr b) (S 1 b)
    have e : z_pc S dr b (S 1 b) ≤ S 1 b := this
    rw [h2, nI_clamp (by omega), (h4 _ (Nat.le_refl _)).2]
    rw [show z_Lb S dr b = z_ls S dr b (S 1 b) from if_neg h1] at hq
    exact ⟨vp_in_nI (by omega) (by omega), hq⟩
theorem z_dn.cg {f f' : sx_F} {S : z_S} {dr b : Nat} (h : z_dn f S dr b) (h9 : f' 9 = f 9) (h10 : f' 10 = f 10) (h11 : f' 11 = f 11) (h12 : f' 12 = f 12) : z_dn f' S dr b := by
  unfold z_dn z_sp at h ⊢
  rw [h9, h10, h11, h12]
  exact h
theorem x_addItem {f : sx_F} {S : z_S} {dr b c : Nat} {Q : sx_F → Prop} (Z : z_X f S) (W : z_W S) (hd : dr ≤ 6) (hb : b < S 0 0) (h11 : f 11 0 = 0) (h12 : f 12 0 = 0) (h8 : f 8 3 = nI c) (hc : c < 12) (h : ∀ f' : sx_F, (∀ k, (k ≤ 7 ∨ k = 15 ∨ 19 ≤ k) → f' k = f k) → f' 11 0 = 0 → f' 12 0 = 0 → f' 8 2 = f 8 2 → f' 8 3 = nI (c + 1) → f' 14 = upd (f 14) c (nI b) → f' 16 = upd (f 16) c (z_dr dr) → f' 17 = upd (f 17) (c + 1) (f 17 c + nI (z_Wb S dr b)) → f' 18 = upd (f 18) (c + 1) (f 18 c + nI (z_Lb S dr b)) → Q f') : P_X0_addItem f (nI b) (z_dr dr) Q := by
  have hn := W.1
  have hlen := W.2.1 b hb
  unfold P_X0_addItem
  rw [h8, nI_clamp (by omega)]
  refine ⟨vp_in_nI (by omega) (by omega), nm_e ?_⟩
  rw [sx_u_n (by decide : (8 : Nat) ≠ 14), h8, nI_clamp (by omega)]
  refine ⟨vp_in_nI (by omega) (by omega), nm_e (x_draw (z_Xu (z_Xu Z (by decide)) (by decide)) W hd hb (by rw [sx_u_n (by decide), sx_u_n (by decide)]; exact h11) (by rw [sx_u_n (by decide), sx_u_n (by decide)]; exact h12) (fun g3 g1 g2 => ?_))⟩
  have e8 : g3 8 = f 8 := by rw [g1 8 (by decide) (by decide) (by decide) (by decide) (by decide), sx_u_n (by decide), sx_u_n (by decide)]
  rw [show g3 8 3 = nI c by rw [e8]; exact h8, nI_1, nI_clamp (by omega), nI_clamp (by omega)]
  refine ⟨vp_in_nI (by omega) (by omega), x_widthOfAll hlen.2 g2 ⟨vp_in_nI (by omega) (by omega), nm_e ?_⟩⟩
  rw [sx_u_n (by decide : (8 : Nat) ≠ 17), e8, h8, nI_1, nI_clamp (by omega), nI_clamp (by omega)]
  refine ⟨vp_in_nI (by omega) (by omega), x_leastOfAll hlen.2 (g2.cg (sx_u_n (by decide)) (sx_u_n (by decide)) (sx_u_n (by decide)) (sx_u_n (by decide))) ⟨vp_in_nI (by omega) (by omega), nm_e (nm_e ?_)⟩⟩
  rw [show (sx_u (sx_u g3 17 (c + 1) (g3 17 c + nI (z_Wb S dr b))) 18 (c + 1) ((sx_u g3 17 (c + 1) (g3 17 c + nI (z_Wb S dr b))) 18 c + nI (z_Lb S dr b))) 8 3 = nI c by rw [sx_u_n (by decide), sx_u_n (by decide), e8, h8], nI_1]
  have gk : ∀ k, k ≠ 9 → k ≠ 10 → k ≠ 11 → k ≠ 12 → k ≠ 13 → k ≠ 14 → k ≠ 16 → g3 k = f k := fun k a1 a2 a3 a4 a5 a6 a7 => by rw [g1 k a1 a2 a3 a4 a5, sx_u_n a7, sx_u_n a6]
  refine h _ (fun k hk => ?_) ?_ ?_ ?_ ?_ ?_ ?_ ?_ ?_
  · rw [sx_u_n (by omega), sx_u_n (by omega), sx_u_n (by omega)]
    exact gk k (by omega) (by omega) (by omega) (by omega) (by omega) (by omega) (by omega)
  · rw [sx_u_n (by decide), sx_u_n (by decide), sx_u_n (by decide)]; exact g2.1
  · rw [sx_u_n (by decide), sx_u_n (by decide), sx_u_n (by decide)]; exact g2.2.1
  · rw [sx_u_s, pk_un (by decide), sx_u_n (by decide), sx_u_n (by decide), e8]
  · rw [sx_u_s, pk_us]
  · rw [sx_u_n (by decide), sx_u_n (by decide), sx_u_n (by decide), g1 14 (by decide) (by decide) (by decide) (by decide) (by decide), sx_u_n (by decide), sx_u_s]
  · rw [sx_u_n (by decide), sx_u_n (by decide), sx_u_n (by decide), g1 16 (by decide) (by decide) (by decide) (by decide) (by decide), sx_u_s, sx_u_n (by decide)]
  · rw [sx_u_n (by decide), sx_u_n (by decide), sx_u_s, gk 17 (by decide) (by decide) (by decide) (by decide) (by decide) (by decide) (by decide)]
  · rw [sx_u_n (by decide), sx_u_s, sx_u_n (by decide), gk 18 (by decide) (by decide) (by decide) (by decide) (by decide) (by decide) (by decide)]
theorem x_gather {f : sx_F} {S : z_S} {bk : Nat} {Q : sx_F → Prop} (Z : z_X f S) (W : z_W S) (hbk : bk ≤ 5) (h11 : f 11 0 = 0) (h12 : f 12 0 = 0) (h17 : f 17 0 = 0) (h18 : f 18 0 = 0) (h : ∀ f' : sx_F, (∀ k, (k ≤ 7 ∨ 19 ≤ k) → f' k = f k) → f' 11 0 = 0 → f' 12 0 = 0 → f' 8 2 = nI bk → z_G f' S bk (S 0 0) → Q f') : P_X0_gather f (nI bk) Q := by
  have hn := W.1
  intro B12 B60 B61 B74 b12 b60 b61 b74
  refine nm_e (nm_e ?_)
  have key : ∀ f' : sx_F, (∀ k, (k ≤ 7 ∨ 19 ≤ k) → f' k = f k) → f' 11 0 = 0 → f' 12 0 = 0 → f' 8 2 = nI bk → z_G f' S bk 0 → B12 f' (nI 0) := by
    refine z_up (B := fun e => ∀ f' : sx_F, (∀ k, (k ≤ 7 ∨ 19 ≤ k) → f' k = f k) → f' 11 0 = 0 → f' 12 0 = 0 → f' 8 2 = nI bk → z_G f' S bk e → B12 f' (nI e)) (S 0 0) (fun e he ih => ?_)
    intro f' f1 f2 f3 f4 f5
    have Z' : z_X f' S := z_Xc Z (f1 1 (by decide)) (f1 2 (by decide)) (f1 5 (by decide)) (f1 6 (by decide)) (f1 7 (by decide))
    refine b12 _ _ ?_
    rw [Z'.1]
    refine pk_le (S 0 0) e (fun c => h f' f1 f2 f3 f4 (by rw [show S 0 0 = e by omega]; exact f5)) (fun c => x_drawerOf Z' W hbk c f4 ?_)
    have hdr := z_drw_le (S := S) (bk := bk) (b := e) hbk
    have hit : z_it S bk e ≤ e := z_cnt_le e
    obtain ⟨g1, g2, g3, g4, g5⟩ := f5
    have eit := z_it_s S bk e
    have ews : z_wsum S bk (e + 1) = z_wsum S bk e + (if z_new S bk e then z_Wb S (z_drw S bk e) e else 0) := rfl
    have els : z_lsum S bk (e + 1) = z_lsum S bk e + (if z_new S bk e then z_Lb S (z_drw S bk e) e else 0) := rfl
    -- behind the item, the bar's own
    have tail : ∀ f2' : sx_F, (∀ k, (k ≤ 7 ∨ 19 ≤ k) → f2' k = f k) → f2' 11 0 = 0 → f2' 12 0 = 0 → f2' 8 2 = nI bk → f2' 15 = f' 15 → f2' 8 3 = nI (z_it S bk (e + 1)) → (∀ b, b < e + 1 → z_new S bk b = true → f2' 14 (z_it S bk b) = nI b ∧ f2' 16 (z_it S bk b) = z_dr (z_drw S bk b)) → (∀ b, b ≤ e + 1 → f2' 17 (z_it S bk b) = nI (z_wsum S bk b) ∧ f2' 18 (z_it S bk b) = nI (z_lsum S bk b)) → f2' 16 (z_it S bk (e + 1) - 1) = z_dr (z_drw S bk e) → B74 f2' (nI e) := by
      intro f2' a1 a2 a3 a4 a5 a6 a7 a8 a9
      have hp := z_it_pos (S := S) (bk := bk) (show 0 < e + 1 by omega)
      refine b74 _ _ ⟨vp_in_nI (by omega) (by omega), nm_e (nm_e ?_)⟩
      rw [nI_1, nI_clamp (by omega), a6, show nI (z_it S bk (e + 1)) - 1 = nI (z_it S bk (e + 1) - 1) from pk_sub (a := z_it S bk (e + 1)) (b := 1) (by omega)]
      refine ih c _ (fun k hk => by rw [sx_u_n (by omega)]; exact a1 k hk) (by rw [sx_u_n (by decide)]; exact a2) (by rw [sx_u_n (by decide)]; exact a3) (by rw [sx_u_n (by decide)]; exact a4) ⟨by rw [sx_u_n (by decide)]; exact a6, fun b hb hb2 => by rw [sx_u_n (by decide), sx_u_n (by decide)]; exact a7 b hb hb2, fun b hb => ?_, fun b hb => by rw [sx_u_n (by decide), sx_u_n (by decide)]; exact a8 b hb, fun _ => by rw [sx_u_n (by decide)]; exact a9⟩
      rw [sx_u_s]
      by_cases eb : b = e
      · rw [eb, pk_us]
      · rw [pk_un eb, a5]; exact g3 b (by omega)
    have isnew : z_new S bk e = true → B61 f' (nI e) (z_dr (z_drw S bk e)) 0 := fun hnw => by
      refine b61 _ _ _ _ ⟨fun _ => x_addItem Z' W hdr c f2 f3 g1 (by omega) (fun f2' a1 a2 a3 a4 a5 a6 a7 a8 a9 => ?_), fun z => absurd rfl z⟩
      rw [hnw] at eit ews els
      simp only [if_true] at eit ews els
      refine tail f2' (fun k hk => by rw [a1 k (by omega)]; exact f1 k hk) a2 a3 (by rw [a4]; exact f4) (a1 15 (by omega)) (by rw [eit]; exact a5) (fun b hb hb2 => ?_) (fun b hb => ?_) ?_
      · rw [a6, a7]
        by_cases eb : b = e
        · rw [eb, pk_us, pk_us]; exact ⟨rfl, rfl⟩
        · have := z_cnt_lt (p := z_new S bk) (show b < e by omega) hb2
          have ne : z_it S bk b ≠ z_it S bk e := by show z_cnt (z_new S bk) b ≠ z_cnt (z_new S bk) e; omega
          rw [pk_un ne, pk_un ne]
          exact g2 b (by omega) hb2
      · rw [a8, a9]
        by_cases eb : b = e + 1
        · rw [eb, eit, pk_us, pk_us, ews, els, (g4 e (Nat.le_refl _)).1, (g4 e (Nat.le_refl _)).2, nI_add, nI_add]
          exact ⟨rfl, rfl⟩
        · have := z_cnt_mono (p := z_new S bk) (show b ≤ e by omega)
          have ne : z_it S bk b ≠ z_it S bk e + 1 := by show z_cnt (z_new S bk) b ≠ z_cnt (z_new S bk) e + 1; omega
          rw [pk_un ne, pk_un ne]
          exact g4 b (by omega)
      · rw [eit, a7, show z_it S bk e + 1 - 1 = z_it S bk e by omega, pk_us]
    have old : z_drw S bk e = 6 → 0 < e → z_drw S bk (e - 1) = 6 → B61 f' (nI e) (z_dr (z_drw S bk e)) 1 := fun d1 d2 d3 => b61 _ _ _ _ ⟨fun z => absurd z (by decide), fun _ => by
      have hnw : z_new S bk e = false := decide_eq_false (fun z => z ⟨d2, d1, d3⟩)
      rw [hnw] at eit ews els
      refine tail f' f1 f2 f3 f4 rfl (by rw [eit]; exact g1) (fun b hb hb2 => ?_) (fun b hb => ?_) ?_
      · by_cases eb : b = e
        · rw [eb, hnw] at hb2; exact absurd hb2 (by decide)
        · exact g2 b (by omega) hb2
      · by_cases eb : b = e + 1
        · rw [eb, eit, ews, els]; exact g4 e (Nat.le_refl _)
        · exact g4 b (by omega)
      · rw [eit]
        have := g5 d2
        rw [d3, ← d1] at this
        exact this⟩
    have n60 : z_new S bk e = true → B60 f' (nI e) (z_dr (z_drw S bk e)) := fun z => b60 _ _ _ (isnew z)
    refine ⟨fun z => ?_, fun z => n60 (decide_eq_true (fun y => z ((z_dr_m1 hdr).mpr y.2.1)))⟩
    have d1 := (z_dr_m1 hdr).mp z
    rw [g1]
    refine pk_le _ 0 (fun z1 => ?_) (fun z1 => ?_)
    · have e0 : e = 0 := Nat.eq_zero_of_not_pos (fun z2 => by have := z_it_pos (S := S) (bk := bk) z2; omega)
      exact n60 (decide_eq_true (fun y => by omega))
    · have ep : 0 < e := Nat.pos_of_ne_zero (fun y => by rw [y] at z1; exact absurd (show 0 < 0 from z1) (Nat.lt_irrefl 0))
      rw [show nI (z_it S bk e) - 1 = nI (z_it S bk e - 1) from pk_sub (a := z_it S bk e) (b := 1) (by omega), nI_clamp (by omega), g5 ep]
      have hdr2 := z_drw_le (S := S) (bk := bk) (b := e - 1) hbk
      refine ⟨vp_in_nI (by omega) (by omega), fun y => old d1 ep ((z_dr_m1 hdr2).mp y), fun y => n60 (decide_eq_true (fun w => y ((z_dr_m1 hdr2).mpr w.2.2)))⟩
  refine key _ (fun k hk => by rw [sx_u_n (by omega), sx_u_n (by omega)]) (by rw [sx_u_n (by decide), sx_u_n (by decide)]; exact h11) (by rw [sx_u_n (by decide), sx_u_n (by decide)]; exact h12) (by rw [sx_u_s, pk_un (by decide), sx_u_s, pk_us]) ⟨by rw [sx_u_s, pk_us]; rfl, fun b hb => absurd hb (by omega), fun b hb => absurd hb (by omega), fun b hb => ?_, fun z => absurd z (by omega)⟩
  rw [show b = 0 by omega, sx_u_n (by decide), sx_u_n (by decide), sx_u_n (by decide), sx_u_n (by decide)]
  exact ⟨h17, h18⟩
end
section
/-- the items of a book's first bars, as they stand in the reference's rows -/
def z_H (g : sx_F) (S : z_S) (bk e : Nat) : Prop := g 0 20 = nI (z_it S bk e) ∧ (∀ b, b < e → z_new S bk b = true → g 13 (z_it S bk b) = nI b ∧ g 15 (z_it S bk b) = z_dr (z_drw S bk b)) ∧ ∀ b, b < e → (b + 1 = e ∨ z_new S bk (b + 1) = true) → g 14 (z_it S bk (b + 1) - 1) = nI b
theorem z_it_run {S : z_S} {bk v : Nat} : ∀ w, v < w → z_new S bk v = true → (∀ b, v < b → b < w → z_new S bk b = false) → z_it S bk w = z_it S bk v + 1 := by
  intro w
  induction w with
  | zero => intro h; omega
  | succ w ih =>
    intro h h1 h2
    rw [z_it_s]
    by_cases e : w = v
    · rw [e, h1]; rfl
    · rw [ih (by omega) h1 (fun b hb hb2 => h2 b hb (by omega)), h2 w (by omega) (by omega)]; rfl
theorem m_adds {g : sx_F} {S : z_S} {bk v w : Nat} {Q : sx_F → Prop} (H : z_H g S bk v) (hv : v < w) (hw : w ≤ 12) (h1 : z_new S bk v = true) (h2 : ∀ b, v < b → b < w → z_new S bk b = false) (h : ∀ g' : sx_F, (∀ k, (1 ≤ k ∧ k ≤ 12) ∨ 16 ≤ k → g' k = g k) → (∀ j, j ≠ 20 → g' 0 j = g 0 j) → z_H g' S bk w → Q g') : P_X7_adds g (nI v) (nI (w - 1)) (z_dr (z_drw S bk v)) Q := by
  have hit : z_it S bk v ≤ v := z_cnt_le v
  have eit := z_it_run w hv h1 h2
  obtain ⟨H1, H2, H3⟩ := H
  unfold P_X7_adds
  rw [H1, nI_clamp (by omega)]
  refine ⟨vp_in_nI (by omega) (by omega), nm_e ?_⟩
  rw [sx_u_n (by decide : (0 : Nat) ≠ 13), H1, nI_clamp (by omega)]
  refine ⟨vp_in_nI (by omega) (by omega), nm_e ?_⟩
  rw [sx_u_n (by decide : (0 : Nat) ≠ 14), sx_u_n (by decide : (0 : Nat) ≠ 13), H1, nI_clamp (by omega)]
  refine ⟨vp_in_nI (by omega) (by omega), nm_e (nm_e ?_)⟩
  rw [sx_u_n (by decide : (0 : Nat) ≠ 15), sx_u_n (by decide : (0 : Nat) ≠ 14), sx_u_n (by decide : (0 : Nat) ≠ 13), H1, nI_1]
  refine h _ (fun k hk => by rw [sx_u_n (by omega), sx_u_n (by omega), sx_u_n (by omega), sx_u_n (by omega)]) (fun j hj => by rw [sx_u_s, pk_un hj, sx_u_n (by decide), sx_u_n (by decide), sx_u_n (by decide)]) ⟨by rw [sx_u_s, pk_us, eit], fun b hb hb2 => ?_, fun b hb hb2 => ?_⟩
  · simp (disch := decide) only [sx_u_n, sx_u_s]
    by_cases eb : b = v
    · rw [eb, pk_us, pk_us]; exact ⟨rfl, rfl⟩
    · have lt : b < v := Nat.lt_of_not_le (fun z => by rw [h2 b (by omega) hb] at hb2; exact absurd hb2 (by decide))
      have := z_cnt_lt (p := z_new S bk) lt hb2
      have ne : z_it S bk b ≠ z_it S bk v := by show z_cnt (z_new S bk) b ≠ z_cnt (z_new S bk) v; omega
      rw [pk_un ne, pk_un ne]
      exact H2 b lt hb2
  · simp (disch := decide) only [sx_u_n, sx_u_s]
    by_cases eb : b + 1 = w
    · rw [eb, eit, show z_it S bk v + 1 - 1 = z_it S bk v by omega, pk_us, show w - 1 = b by omega]
    · have hb3 := hb2.resolve_left eb
      have lt : b < v := Nat.lt_of_not_le (fun z => by rw [h2 (b + 1) (by omega) (by omega)] at hb3; exact absurd hb3 (by decide))
      have hp := z_it_pos (S := S) (bk := bk) (show 0 < b + 1 by omega)
      have := z_cnt_mono (p := z_new S bk) (show b + 1 ≤ v by omega)
      have ne : z_it S bk (b + 1) - 1 ≠ z_it S bk v := by
        have e : z_it S bk (b + 1) ≤ z_it S bk v := this
        omega
      rw [pk_un ne]
      exact H3 b lt (Or.inr hb3)
theorem m_laysItems {g : sx_F} {S : z_S} {bk : Nat} {Q : sx_F → Prop} (M : z_M g S) (W : z_W S) (hbk : bk ≤ 5) (h : ∀ g' : sx_F, (∀ k, (1 ≤ k ∧ k ≤ 12) ∨ 16 ≤ k → g' k = g k) → (∀ j, j ≠ 20 → g' 0 j = g 0 j) → z_H g' S bk (S 0 0) → Q g') : P_X7_laysItems g (nI bk) Q := by
  have hn := W.1
  intro B7 B17 B45 B89 B90 B109 B131 b7 b17 b45 b89 b90 b109 b131
  refine nm_e ?_
  -- what the reference keeps at the head
  have key : ∀ d v, v + d = S 0 0 → ∀ g' : sx_F, (∀ k, (1 ≤ k ∧ k ≤ 12) ∨ 16 ≤ k → g' k = g k) → (∀ j, j ≠ 20 → g' 0 j = g 0 j) → z_H g' S bk v → (v = 0 ∨ bk = 5 ∨ z_sil S (12 * bk + (v - 1)) = false ∨ v = S 0 0 ∨ z_sil S (12 * bk + v) = false) → B7 g' (nI v) := by
    intro d
    induction d using Nat.strongRecOn with
    | ind d ih =>
    intro v hv g' f1 f2 f3 f4
    have M' : z_M g' S := by
      unfold z_M at M ⊢
      rw [f2 5 (by decide), f1 1 (by decide), f1 4 (by decide), f1 2 (by decide), f1 3 (by decide)]
      exact M
    refine b7 _ _ ?_
    rw [M'.1]
    refine pk_le (S 0 0) v (fun c => h g' f1 f2 (by rw [show S 0 0 = v by omega]; exact f3)) (fun c => ?_)
    -- the end of the silence
    have fin : ∀ w, v ≤ w → w ≤ S 0 0 → (∀ b, v ≤ b → b < w → bk ≠ 5 ∧ z_sil S (12 * bk + b) = true) → (bk = 5 ∨ w = S 0 0 ∨ z_sil S (12 * bk + w) = false) → B45 g' (nI v) (nI w) := by
      intro w h1 h2 h3 h4
      refine b45 _ _ _ (pk_eq w v (fun e => ?_) (fun e => ?_))
      · subst e
        have hs : bk = 5 ∨ z_sil S (12 * bk + w) = false := h4.imp id (fun z => z.resolve_left (by omega))
        have hdw : z_drw S bk w = bk := if_pos hs
        have ad := m_adds (w := w + 1) (Q := fun g13 => ∀ y14 : Int32, y14 = nI w + 1 → B131 g13 y14) f3 (by omega) (by omega) (decide_eq_true (fun z => by rw [hdw] at z; omega)) (fun b hb hb2 => absurd hb (by omega)) (fun g2 a1 a2 a3 => nm_e (b131 _ _ (by
          rw [nI_1]
          exact ih (d - 1) (by omega) (w + 1) (by omega) g2 (fun k hk => by rw [a1 k hk]; exact f1 k hk) (fun j hj => by rw [a2 j hj]; exact f2 j hj) a3 (Or.inr (hs.imp id (fun z => Or.inl (by rw [show w + 1 - 1 = w by omega]; exact z)))))))
        rw [hdw, z_drn (by omega), show w + 1 - 1 = w by omega] at ad
        exact ad
      · have hvw : v < w := by omega
        have nb5 : bk ≠ 5 := (h3 v (Nat.le_refl _) hvw).1
        have sil : ∀ b, v ≤ b → b < w → z_sil S (12 * bk + b) = true := fun b a1 a2 => (h3 b a1 a2).2
        have hst : v = 0 ∨ z_sil S (12 * bk + (v - 1)) = false := by
          rcases f4 with z | z | z | z | z
          · exact Or.inl z
          · exact absurd z nb5
          · exact Or.inr z
          · omega
          · rw [sil v (Nat.le_refl _) hvw] at z; exact absurd z (by decide)
        have dS : ∀ b, v ≤ b → b < w → z_drw S bk b = z_cueX S bk b := fun b a1 a2 => if_neg (fun z => z.elim nb5 (fun z => by rw [sil b a1 a2] at z; exact absurd z (by decide)))
        have dIn : ∀ b, v ≤ b → b + 1 < w → z_drw S bk b = 6 := fun b a1 a2 => by
          rw [dS b a1 (by omega)]
          exact if_neg (fun z => by rw [sil (b + 1) (by omega) a2] at z; exact absurd z.2.2.2.2.2 (by decide))
        have hnv : z_new S bk v = true := decide_eq_true (fun z => by
          rcases hst with y | y
          · omega
          · have e : z_drw S bk (v - 1) = bk := if_pos (Or.inr y)
            rw [e] at z
            omega)
        have nIn : ∀ b, v < b → b < w → z_drw S bk b = 6 → z_new S bk b = false := fun b a1 a2 a3 => decide_eq_false (fun z => z ⟨by omega, a3, dIn (b - 1) (by omega) (by omega)⟩)
        -- one rest
        have rest : z_drw S bk (w - 1) = 6 → B90 g' (nI v) (nI w) (-1) := by
          intro hq
          have dv : z_drw S bk v = 6 := by
            by_cases e2 : v + 1 < w
            · exact dIn v (Nat.le_refl _) e2
            · rw [show v = w - 1 by omega]; exact hq
          refine b90 _ _ _ _ ⟨fun _ => ?_, fun z => absurd rfl z⟩
          refine b109 _ _ _ _ _ ?_
          have ad := m_adds (w := w) (Q := fun g16 => ((-1 : Int32) = -1 → B131 g16 (nI w)) ∧ (¬ (-1 : Int32) = -1 → P_X7_adds g16 (nI w - 1) (nI w - 1) (-1) (fun g18 => B131 g18 (nI w)))) f3 hvw (by omega) hnv (fun b a1 a2 => nIn b a1 a2 (by
            by_cases e2 : b + 1 < w
            · exact dIn b (by omega) e2
            · rw [show b = w - 1 by omega]; exact hq)) (fun g2 a1 a2 a3 => ⟨fun _ => b131 _ _ (ih (d - (w - v)) (by omega) w (by omega) g2 (fun k hk => by rw [a1 k hk]; exact f1 k hk) (fun j hj => by rw [a2 j hj]; exact f2 j hj) a3 (Or.inr (Or.inr (Or.inr (h4.resolve_left nb5))))), fun z => absurd rfl z⟩)
          rw [dv, z_dr6] at ad
          rw [show nI w - 1 = nI (w - 1) from pk_sub (a := w) (b := 1) (by omega)]
          rw [show nI w - 1 = nI (w - 1) from pk_sub (a := w) (b := 1) (by omega)] at ad
          exact ad
        have short : ¬ (3 ≤ w - v ∧ w < S 0 0) → z_drw S bk (w - 1) = 6 := fun z => by
          rw [dS (w - 1) (by omega) (by omega)]
          refine if_neg (fun y => ?_)
          obtain ⟨y1, y2, y3, y4, y5, y6⟩ := y
          have lt3 : w - v < 3 := by omega
          rcases hst with q | q
          · omega
          · by_cases e1 : w - v = 1
            · rw [show w - 1 - 1 = v - 1 by omega, q] at y4; exact absurd y4 (by decide)
            · rw [show w - 1 - 2 = v - 1 by omega, q] at y3; exact absurd y3 (by decide)
        rw [show (nI w - nI v) = nI (w - v) from pk_sub (by omega), M'.1]
        refine pk_lt (w - v) 3 (fun z => b89 _ _ _ (rest (short (by omega)))) (fun z => pk_le (S 0 0) w (fun y => b89 _ _ _ (rest (short (by omega)))) (fun y => ?_))
        rw [show nI w - 1 = nI (w - 1) from pk_sub (a := w) (b := 1) (by omega)]
        refine m_cueFor M' W (by omega) (by omega) ?_
        have hcue : z_drw S bk (w - 1) = z_best S bk (w - 1) 5 := by
          rw [dS (w - 1) (by omega) (by omega)]
          refine if_pos ⟨by omega, by omega, sil _ (by omega) (by omega), sil _ (by omega) (by omega), sil _ (by omega) (by omega), ?_⟩
          rw [show w - 1 + 1 = w by omega]
          exact (h4.resolve_left nb5).resolve_left (by omega)
        rw [← hcue]
        by_cases q6 : z_drw S bk (w - 1) = 6
        · rw [q6]; exact rest q6
        · have hq5 : z_drw S bk (w - 1) < 5 := by
            rw [hcue] at q6 ⊢
            rcases z_best_r (S := S) (bk := bk) (b := w - 1) 5 (Nat.le_refl _) with q | q
            · exact absurd q q6
            · exact q.1
          have nq : ¬ z_dr (z_drw S bk (w - 1)) = -1 := fun q => q6 ((z_dr_m1 (by omega)).mp q)
          refine b90 _ _ _ _ ⟨fun q => absurd q nq, fun _ => b109 _ _ _ _ _ ?_⟩
          have dv : z_drw S bk v = 6 := dIn v (Nat.le_refl _) (by omega)
          have ad := m_adds (w := w - 1) (Q := fun g16 => (z_dr (z_drw S bk (w - 1)) = -1 → B131 g16 (nI w)) ∧ (¬ z_dr (z_drw S bk (w - 1)) = -1 → P_X7_adds g16 (nI w - 1) (nI w - 1) (z_dr (z_drw S bk (w - 1))) (fun g18 => B131 g18 (nI w)))) f3 (by omega) (by omega) hnv (fun b a1 a2 => nIn b a1 (by omega) (dIn b (by omega) (by omega))) (fun g2 a1 a2 a3 => ⟨fun q => absurd q nq, fun _ => by
            have ad2 := m_adds (w := w) (Q := fun g18 => B131 g18 (nI w)) a3 (by omega) (by omega) (decide_eq_true (fun q => q6 q.2.1)) (fun b a1 a2 => absurd a1 (by omega)) (fun g3 c1 c2 c3 => b131 _ _ (ih (d - (w - v)) (by omega) w (by omega) g3 (fun k hk => by rw [c1 k hk, a1 k hk]; exact f1 k hk) (fun j hj => by rw [c2 j hj, a2 j hj]; exact f2 j hj) c3 (Or.inr (Or.inr (Or.inr (h4.resolve_left nb5))))))
            rw [show nI w - 1 = nI (w - 1) from pk_sub (a := w) (b := 1) (by omega)]
            exact ad2⟩)
          rw [dv, z_dr6, show w - 1 - 1 = w - 2 by omega] at ad
          rw [show nI w - 2 = nI (w - 2) from pk_sub (a := w) (b := 2) (by omega)]
          exact ad
    -- the silence itself
    have run : ∀ k w, w + k = S 0 0 → v ≤ w → (∀ b, v ≤ b → b < w → bk ≠ 5 ∧ z_sil S (12 * bk + b) = true) → B17 g' (nI v) (nI w) := by
      intro k
      induction k with
      | zero =>
        intro w e1 e2 e3
        refine b17 _ _ _ (pk_eq bk 5 (fun z => fin w e2 (by omega) e3 (Or.inl z)) (fun z => ?_))
        rw [M'.1]
        exact pk_le (S 0 0) w (fun _ => fin w e2 (by omega) e3 (Or.inr (Or.inl (by omega)))) (fun y => absurd y (by omega))
      | succ k ihk =>
        intro w e1 e2 e3
        refine b17 _ _ _ (pk_eq bk 5 (fun z => fin w e2 (by omega) e3 (Or.inl z)) (fun z => ?_))
        rw [M'.1]
        refine pk_le (S 0 0) w (fun y => absurd y (by omega)) (fun y => m_isSilent M' W (by omega) (by omega) ?_)
        cases s : z_sil S (12 * bk + w)
        · exact ⟨fun _ => fin w e2 (by omega) e3 (Or.inr (Or.inr s)), fun q => absurd rfl q⟩
        · refine ⟨fun q => absurd q (by decide), fun _ => nm_e ?_⟩
          rw [nI_1]
          refine ihk (w + 1) (by omega) (by omega) (fun b a1 a2 => ?_)
          by_cases eb : b = w
          · rw [eb]; exact ⟨z, s⟩
          · exact e3 b a1 (by omega)
    exact run d v hv (Nat.le_refl _) (fun b a1 a2 => absurd a1 (by omega))
  refine key (S 0 0) 0 (by omega) _ (fun k hk => sx_u_n (by omega)) (fun j hj => by rw [sx_u_s, pk_un hj]) ⟨by rw [sx_u_s, pk_us]; rfl, fun b hb => absurd hb (by omega), fun b hb => absurd hb (by omega)⟩ (Or.inl rfl)
end
section
theorem z_cnt_ex {p : Nat → Bool} : ∀ e j, j < z_cnt p e → ∃ x, x < e ∧ p x = true ∧ z_cnt p x = j
  | 0, j, h => absurd h (Nat.not_lt_zero _)
  | e + 1, j, h => by
    rw [z_cnt_s] at h
    by_cases c : j < z_cnt p e
    · obtain ⟨x, h1, h2, h3⟩ := z_cnt_ex e j c
      exact ⟨x, by omega, h2, h3⟩
    · cases hp : p e
      · rw [hp] at h; simp at h; exact absurd h c
      · rw [hp] at h
        simp at h
        exact ⟨e, by omega, hp, by omega⟩
/-- the first bar of a bar's item -/
theorem z_first {S : z_S} {bk : Nat} : ∀ b, ∃ x, x ≤ b ∧ z_new S bk x = true ∧ z_it S bk (b + 1) = z_it S bk x + 1 ∧ z_drw S bk x = z_drw S bk b ∧ (x < b → z_drw S bk b = 6)
  | 0 => ⟨0, Nat.le_refl _, z_new0 S bk, by rw [z_it_s, z_new0]; rfl, rfl, fun z => absurd z (by omega)⟩
  | b + 1 => by
    cases hn : z_new S bk (b + 1)
    · obtain ⟨x, h1, h2, h3, h4, h5⟩ := z_first (S := S) (bk := bk) b
      have hq : 0 < b + 1 ∧ z_drw S bk (b + 1) = 6 ∧ z_drw S bk (b + 1 - 1) = 6 := by
        unfold z_new at hn
        rw [decide_eq_false_iff_not] at hn
        exact Decidable.not_not.mp hn
      rw [show b + 1 - 1 = b by omega] at hq
      exact ⟨x, by omega, h2, by rw [z_it_s, hn, h3]; rfl, by rw [h4, hq.2.1, hq.2.2], fun _ => hq.2.1⟩
    · exact ⟨b + 1, Nat.le_refl _, hn, by rw [z_it_s, hn]; rfl, rfl, fun z => absurd z (by omega)⟩
/-- the last bar of a bar's item -/
theorem z_last {S : z_S} {bk n : Nat} : ∀ d b, b + d + 1 = n → ∃ l, b ≤ l ∧ l < n ∧ (l + 1 = n ∨ z_new S bk (l + 1) = true) ∧ z_it S bk (l + 1) = z_it S bk (b + 1)
  | 0, b, h => ⟨b, Nat.le_refl _, by omega, Or.inl (by omega), rfl⟩
  | d + 1, b, h => by
    cases hn : z_new S bk (b + 1)
    · obtain ⟨l, h1, h2, h3, h4⟩ := z_last (S := S) (bk := bk) (n := n) d (b + 1) (by omega)
      exact ⟨l, by omega, h2, h3, by rw [h4, z_it_s, hn]; rfl⟩
    · exact ⟨b, Nat.le_refl _, by omega, Or.inr hn, rfl⟩
theorem m_itemWith {g : sx_F} {S : z_S} {bk b : Nat} {Q : Int32 → Prop} (H : z_H g S bk (S 0 0)) (hn : S 0 0 ≤ 12) (hb : b < S 0 0) (h : Q (nI (z_it S bk (b + 1) - 1))) : P_X7_itemWith g (nI b) Q := by
  intro B2 h2
  have hp := z_it_pos (S := S) (bk := bk) (show 0 < b + 1 by omega)
  have hle : z_it S bk (b + 1) ≤ b + 1 := z_cnt_le (b + 1)
  refine z_up (B := fun j => B2 (nI j)) (z_it S bk (b + 1) - 1) (fun j hj ih => h2 _ ⟨vp_in_nI (by omega) (by omega), ?_⟩)
  rw [nI_clamp (by omega)]
  by_cases e : j = z_it S bk (b + 1) - 1
  · obtain ⟨l, h1, h3, h4, h5⟩ := z_last (S := S) (bk := bk) (n := S 0 0) (S 0 0 - b - 1) b (by omega)
    have hl := H.2.2 l h3 h4
    rw [h5, ← e] at hl
    rw [hl]
    exact pk_le b l (fun _ => by rw [e]; exact h) (fun c => absurd c (by omega))
  · obtain ⟨x, h1, h3, h4⟩ := z_cnt_ex (p := z_new S bk) (b + 1) (j + 1) (by show j + 1 < z_it S bk (b + 1); omega)
    have hx : x ≠ 0 := fun z => by rw [z] at h4; exact absurd h4 (by show (0 : Nat) ≠ j + 1; omega)
    have hl := H.2.2 (x - 1) (by omega) (Or.inr (by rw [show x - 1 + 1 = x by omega]; exact h3))
    rw [show x - 1 + 1 = x by omega, show z_it S bk x - 1 = j by show z_cnt (z_new S bk) x - 1 = j; omega] at hl
    rw [hl]
    refine pk_le b (x - 1) (fun c => absurd c (by omega)) (fun _ => nm_e ?_)
    rw [nI_1]
    exact ih (by omega)
theorem x_openBook {t : Nat} {f g : sx_F} {S : z_S} {bk : Nat} {Q : sx_F → Prop} {X : String → sx_F → Prop} (R : z_R t f g S) (hbk : bk ≤ 5) (h : ∀ f' : sx_F, z_fx f f' → z_X f' S → (∀ k, 19 ≤ k → f' k = f k) → f' 11 0 = 0 → f' 12 0 = 0 → f' 8 2 = nI bk → z_G f' S bk (S 0 0) → Q f') : P_X6_openBook f (nI bk) Q X := by
  obtain ⟨w, q, p1, p2, p3, p4, p5, p6, p7, p8, p11, p12, p17, p18⟩ := R.2.2.2.2.2.1
  refine x_needIndex_t (n := 6) (by omega) (by omega) (x_gather R.1 R.2.2.1 hbk p11 p12 p17 p18 (fun f' a1 a2 a3 a4 a5 => ?_))
  have a0 := a5.2.2.2.1 0 (by omega)
  have fx : z_fx f f' := by
    refine ⟨fun k hk => a1 k (by omega), fun k j hk => ?_⟩
    rcases hk with ⟨rfl, hk⟩ | ⟨rfl, rfl | rfl | rfl | rfl⟩
    · rw [a1 19 (by omega)]
    · rw [a2, p11]
    · rw [a3, p12]
    · rw [p17]; exact a0.1
    · rw [p18]; exact a0.2
  exact h f' fx (R.1.fx fx) (fun k hk => a1 k (by omega)) a2 a3 a4 a5
theorem z_gx_items {g g' : sx_F} (h1 : ∀ k, (1 ≤ k ∧ k ≤ 12) ∨ 16 ≤ k → g' k = g k) (h2 : ∀ j, j ≠ 20 → g' 0 j = g 0 j) : z_gx g g' := ⟨fun k hk => h1 k (Or.inl hk), fun j hj => h2 j (by omega)⟩
theorem k_items {t : Nat} {f g : sx_F} {o : Nat → Int64} {x : Int32} (h : z_I t f g) : P_case_items f g o x (z_I (t + 1)) := by
  have hI := h
  obtain ⟨S, R⟩ := h
  unfold P_case_items P_L_items P_X6_items
  have bad : ∀ QQ : Int32 → sx_F → Prop, (x < 0 ∨ nI 6 ≤ x) → QQ 0 (sx_u g 0 33 1) → P_X7_items g x QQ := by
    intro QQ hb q
    refine m_isBook ?_
    rw [z_no hb]
    exact m_goes_1 ⟨fun _ => q, fun c => absurd rfl c⟩
  rcases pk_ix x (n := 6) (by omega) with hx | hx | ⟨bk, hbk, rfl⟩
  · exact x_needIndex_f (Or.inl hx) ⟨rfl, bad _ (Or.inl hx) (z_finE z_33 (by decide) (hI.go _))⟩
  · exact x_needIndex_f (Or.inr hx) ⟨rfl, bad _ (Or.inr hx) (z_finE z_33 (by decide) (hI.go _))⟩
  refine x_openBook R (by omega) (fun f' fx _ _ _ _ _ G => nm_e ?_)
  refine m_isBook ?_
  rw [z_yes hbk (by omega)]
  refine m_goes_0 ⟨fun c => absurd c (by decide), fun _ => m_laysItems (R.2.1.gx (z_gx.go g 0)) R.2.2.1 (by omega) (fun g' a1 a2 a3 => z_fin0 (by rw [a2 33 (by decide)]; exact z_33) ?_ (hI.same fx ((z_gx.go g 0).trans (z_gx_items a1 a2))))⟩
  rw [G.1, a3.1]
theorem k_itemOf {t : Nat} {f g : sx_F} {o : Nat → Int64} {x y : Int32} (h : z_I t f g) : P_case_itemOf f g o x y (z_I (t + 1)) := by
  have hI := h
  obtain ⟨S, R⟩ := h
  have hn := R.2.2.1.1
  unfold P_case_itemOf P_L_itemOf P_X6_itemOf
  have bad : ∀ QQ : Int32 → sx_F → Prop, ((x < 0 ∨ nI 6 ≤ x) ∨ (y < 0 ∨ nI (S 0 0) ≤ y)) → QQ 0 (sx_u g 0 33 1) → P_X7_itemOf g x y QQ := by
    intro QQ hb q B20 B21 h20 h21
    have k : B20 g := h20 _ (h21 _ _ (m_goes_1 ⟨fun _ => q, fun c => absurd rfl c⟩))
    refine m_isBook ?_
    rcases z_b_cases (decide (¬ x < 0 ∧ ¬ nI 6 ≤ x)) with e | e
    · rw [e]; exact ⟨fun _ => k, fun c => absurd rfl c⟩
    · rw [e]
      refine ⟨fun c => absurd c (by decide), fun _ => m_isBar R.2.1.1 (by omega) ?_⟩
      rcases hb with hb | hb
      · rw [z_no hb] at e; exact absurd e (by decide)
      · rw [z_no hb]; exact ⟨fun _ => k, fun c => absurd rfl c⟩
  rcases pk_ix x (n := 6) (by omega) with hx | hx | ⟨bk, hbk, rfl⟩
  · exact x_needIndex_f (Or.inl hx) ⟨rfl, bad _ (Or.inl (Or.inl hx)) (z_finE z_33 (by decide) (hI.go _))⟩
  · exact x_needIndex_f (Or.inr hx) ⟨rfl, bad _ (Or.inl (Or.inr hx)) (z_finE z_33 (by decide) (hI.go _))⟩
  refine x_openBook R (by omega) (fun f' fx Z' _ _ _ _ G => ?_)
  rw [Z'.1]
  rcases pk_ix y (n := S 0 0) (by omega) with hy | hy | ⟨b, hb, rfl⟩
  · exact x_needIndex_f (Or.inl hy) ⟨rfl, bad _ (Or.inr (Or.inl hy)) (z_finE z_33 (by decide) (hI.same fx (z_gx.go g _)))⟩
  · exact x_needIndex_f (Or.inr hy) ⟨rfl, bad _ (Or.inr (Or.inr hy)) (z_finE z_33 (by decide) (hI.same fx (z_gx.go g _)))⟩
  refine x_needIndex_t hb (by omega) ⟨vp_in_nI (by omega) (by omega), nm_e ?_⟩
  rw [nI_clamp (by omega), G.2.2.1 b hb]
  intro B20 B21 h20 h21
  refine m_isBook ?_
  rw [z_yes hbk (by omega)]
  refine ⟨fun c => absurd c (by decide), fun _ => m_isBar R.2.1.1 (by omega) ?_⟩
  rw [z_yes hb (by omega)]
  refine ⟨fun c => absurd c (by decide), fun _ => h21 _ _ (m_goes_0 ⟨fun c => absurd c (by decide), fun _ => m_laysItems (R.2.1.gx (z_gx.go g 0)) R.2.2.1 (by omega) (fun g' a1 a2 a3 => m_itemWith a3 hn hb (z_fin0 (by rw [a2 33 (by decide)]; exact z_33) rfl (hI.same fx ((z_gx.go g 0).trans (z_gx_items a1 a2)))))⟩)⟩
theorem k_cue {t : Nat} {f g : sx_F} {o : Nat → Int64} {x y : Int32} (h : z_I t f g) : P_case_cue f g o x y (z_I (t + 1)) := by
  have hI := h
  obtain ⟨S, R⟩ := h
  have hn := R.2.2.1.1
  unfold P_case_cue P_L_cue P_X6_cue
  rcases z_pair x y (a := 5) (n := S 0 0) (by omega) (by omega) with hbad | ⟨i, b, hi, hb, rfl, rfl⟩
  · refine x_needSlot_f R.1 hbad ⟨rfl, ?_⟩
    intro B20 B21 h20 h21
    exact m_pair_f R.2.1 R.2.2.1 hbad (h20 _ (h21 _ _ (m_goes_1 ⟨fun _ => z_finE z_33 (by decide) (hI.go _), fun c => absurd rfl c⟩)))
  refine x_needSlot_t R.1 R.2.2.1 hi hb (x_cuePlayer R.1 R.2.2.1 hi hb (nm_e ?_))
  intro B20 B21 h20 h21
  refine m_pair_t R.2.1 R.2.2.1 hi hb (h21 _ _ (m_goes_0 ⟨fun c => absurd c (by decide), fun _ => m_laysItems (R.2.1.gx (z_gx.go g 0)) R.2.2.1 (by omega) (fun g' a1 a2 a3 => m_itemWith a3 hn hb ?_)⟩))
  obtain ⟨xb, c1, c2, c3, c4, c5⟩ := z_first (S := S) (bk := i) b
  have hle : z_it S i xb ≤ xb := z_cnt_le xb
  rw [c3, show z_it S i xb + 1 - 1 = z_it S i xb by omega, nI_clamp (by omega), (a3.2.1 xb (by omega) c2).2, c4]
  have fin : ∀ v : Int32, v = z_dr (z_cueX S i b) → P_X7_thrown g' (fun tt => tt = 0 ∧ ((0 : Int32) = 0 → (vp_updL o 0 (z_dr (z_cueX S i b)).toInt64) 0 = v.toInt64) ∧ z_I (t + 1) f g') := fun v hv => z_fin0 (by rw [a2 33 (by decide)]; exact z_33) hv.symm (hI.same (z_fx.refl f) ((z_gx.go g 0).trans (z_gx_items a1 a2)))
  refine ⟨vp_in_nI (by omega) (by omega), nm_e ?_⟩
  cases s : z_sil S (12 * i + b)
  · have e1 : z_drw S i b = i := if_pos (Or.inr s)
    have e2 : z_cueX S i b = 6 := if_neg (fun z => by rw [s] at z; exact absurd z.2.2.2.2.1 (by decide))
    rw [e1, z_drn (by omega)]
    exact ⟨fun _ => fin _ (by rw [e2]; rfl), fun c => absurd rfl c⟩
  · have e1 : z_drw S i b = z_cueX S i b := if_neg (fun z => z.elim (by omega) (fun z => by rw [s] at z; exact absurd z (by decide)))
    rw [e1]
    refine ⟨fun c => ?_, fun _ => fin _ rfl⟩
    rcases z_cueX_r (S := S) (bk := i) (b := b) with z | z
    · rw [z] at c; exact absurd c.symm (z_nm (by omega))
    · rw [z_drn (by omega)] at c
      exact absurd ((nI_eq (by omega) (by omega)).mp c) z.2.1
end
section
theorem z_bgk_at {S : z_S} (W : z_W S) {s p k : Nat} (hs : s < 60) (hk : z_fl S s k = p) : ∀ c, k < c → c ≤ S 2 s → z_bgk S s p c = if S 4 (8 * s + k) = 0 then 1 else 2
  | 0, h, _ => absurd h (Nat.not_lt_zero _)
  | c + 1, h, h2 => by
    show (if z_fl S s c = p then (if S 4 (8 * s + c) = 0 then 1 else 2) else z_bgk S s p c) = _
    by_cases e : c = k
    · rw [e, if_pos hk]
    · have := z_fl_lt W hs (show k < c by omega) (by omega)
      rw [if_neg (by omega)]
      exact z_bgk_at W hs hk c (by omega) (by omega)
theorem m_begins {g : sx_F} {S : z_S} (M : z_M g S) (W : z_W S) {i b p : Nat} (hi : i < 5) (hb : b < S 0 0) (hp : p < 32) {Q : Int32 → Prop} (h : Q (nI (z_bg S (12 * i + b) (S 1 b) p))) : P_X7_begins g (nI i) (nI b) (nI p) Q := by
  have hn := W.1
  intro B13 h13
  refine m_cell ?_
  have hs : 12 * i + b < 60 := by omega
  have hfl := W.2.2.2.2.2.1 i b hi hb
  have hlen := W.2.1 b hb
  generalize 12 * i + b = s at hs h hfl
  have hc := W.2.2.1 s hs
  have key : (∀ j, j < 0 → z_fl S s j ≠ p) → B13 (nI s) (nI (z_fl S s 0)) (nI 0) := by
    refine z_up (B := fun k => (∀ j, j < k → z_fl S s j ≠ p) → B13 (nI s) (nI (z_fl S s k)) (nI k)) (S 2 s) (fun k hk ih => ?_)
    intro h0
    have hle := z_fl_le (S := S) s hk
    refine h13 _ _ _ ⟨vp_in_nI (by omega) (by omega), ?_⟩
    rw [nI_clamp (n := s) (by omega), M.2.2.1 s hs]
    refine pk_le (S 2 s) k (fun c => ?_) (fun c => ?_)
    · have ek : k = S 2 s := by omega
      subst ek
      have z0 : z_bgk S s p (S 2 s) = 0 := z_bgk_0 _ h0
      unfold z_bg at h
      rw [if_pos z0] at h
      refine pk_eq (z_fl S s (S 2 s)) p (fun e => ⟨vp_in_nI (by omega) (by omega), ?_⟩) (fun e => ?_)
      · rw [nI_clamp (by omega), M.2.1 b (by omega)]
        refine pk_le (S 1 b) (z_fl S s (S 2 s)) (fun c1 => ?_) (fun c1 => ?_)
        · rw [if_neg (by omega)] at h; exact h
        · rw [if_pos ⟨e, by omega⟩] at h; exact h
      · rw [if_neg (fun z => e z.1)] at h; exact h
    · rw [z_at', nI_clamp (n := 8 * s + k) (by omega)]
      refine pk_eq (z_fl S s k) p (fun e => ⟨vp_in_nI (by omega) (by omega), ?_⟩) (fun e => ⟨vp_in_nI (by omega) (by omega), nm_e (nm_e ?_)⟩)
      · have z1 := z_bgk_at W hs e (S 2 s) c (Nat.le_refl _)
        have hp60 := (W.2.2.2.1 (8 * s + k) (by omega)).2
        rw [M.2.2.2.2 _ (by omega)]
        unfold z_bg at h
        rw [z1] at h
        refine pk_le (S 4 (8 * s + k)) 0 (fun y => ?_) (fun y => ?_)
        · rw [if_pos (show S 4 (8 * s + k) = 0 by omega), if_neg (by decide)] at h; exact h
        · rw [if_neg (show ¬ S 4 (8 * s + k) = 0 by omega), if_neg (by decide)] at h; exact h
      · rw [M.2.2.2.1 _ (by omega), nI_add, nI_1]
        refine ih c (fun j hj => ?_)
        by_cases ej : j = k
        · rw [ej]; exact e
        · exact h0 j (by omega)
  exact key (fun j hj => absurd hj (by omega))
theorem m_halvings {g : sx_F} {l : Nat} {Q : Int32 → Prop} (hl : l < 2 ^ 6) (h : Q (nI (z_hv 6 l))) : P_X7_halvings g (nI l) Q := by
  intro B4 h4
  have key : ∀ d l a, l < 2 ^ d → d ≤ 6 → Q (nI (a + z_hv d l)) → B4 (nI a) (nI l) := by
    intro d
    induction d with
    | zero =>
      intro l a hl _ hq
      exact h4 _ _ (pk_le l 1 (fun _ => hq) (fun c => absurd c (by omega)))
    | succ d ih =>
      intro l a hl hd hq
      have hl' : l < 2 ^ d * 2 := by rw [← Nat.pow_succ]; exact hl
      have h2 : 2 ^ d ≤ 2 ^ 6 := Nat.pow_le_pow_right (by decide) (by omega)
      refine h4 _ _ (pk_le l 1 (fun c => ?_) (fun c => nm_e (nm_e ?_)))
      · rw [show z_hv (d + 1) l = 0 from if_pos c] at hq; exact hq
      · rw [show z_hv (d + 1) l = z_hv d (l / 2) + 1 from if_neg (by omega), show a + (z_hv d (l / 2) + 1) = (a + 1) + z_hv d (l / 2) by omega] at hq
        have e : nI l / 2 = nI (l / 2) := pk_div (a := l) (d := 2) (by omega) (by omega) (by omega)
        rw [e, nI_1]
        exact ih (l / 2) (a + 1) (by omega) (by omega) hq
  have h' : Q (nI (0 + z_hv 6 l)) := by rw [Nat.zero_add]; exact h
  exact key 6 l 0 hl (by omega) h'
theorem z_pl0 {S : z_S} {dr b : Nat} (W : z_W S) (hd : dr ≤ 5) (hb : b < S 0 0) : z_pl S dr b 0 = true := by
  have hn := W.1
  have hlen := W.2.1 b hb
  obtain ⟨i, hi, hin⟩ : ∃ i, i < 5 ∧ z_in dr i = true := by
    by_cases e : dr = 5
    · exact ⟨0, by omega, decide_eq_true (Or.inl e)⟩
    · exact ⟨dr, by omega, decide_eq_true (Or.inr rfl)⟩
  have hs : 12 * i + b < 60 := by omega
  have pos : 0 < z_bg S (12 * i + b) (S 1 b) 0 := by
    unfold z_bg
    by_cases c : S 2 (12 * i + b) = 0
    · rw [c]
      rw [if_pos (show z_bgk S (12 * i + b) 0 0 = 0 from rfl), if_pos (show z_fl S (12 * i + b) 0 = 0 ∧ 0 < S 1 b from ⟨rfl, by omega⟩)]
      omega
    · rw [z_bgk_at W hs (show z_fl S (12 * i + b) 0 = 0 from rfl) _ (by omega) (Nat.le_refl _)]
      by_cases z : S 4 (8 * (12 * i + b) + 0) = 0
      · rw [if_pos z, if_neg (by decide)]; omega
      · rw [if_neg z, if_neg (by decide)]; omega
  refine decide_eq_true ?_
  refine Nat.pos_of_ne_zero (fun z => ?_)
  have := (z_cnt_0 (p := fun k => z_in dr k && decide (0 < z_bg S (12 * k + b) (S 1 b) 0)) 5).mp z i hi
  rw [hin, decide_eq_true pos] at this
  exact absurd this (by decide)
/-- how many of the instruments before one begin, where the drawer is one alone -/
theorem z_cnt_in {dr : Nat} {p : Nat → Bool} (hd : dr < 5) : ∀ m, m ≤ dr → z_cnt (fun k => z_in dr k && p k) m = 0
  | 0, _ => rfl
  | m + 1, h => by
    rw [z_cnt_s, z_cnt_in hd m (by omega), show z_in dr m = false from decide_eq_false (fun z => by omega)]
    rfl
theorem z_cnt_in2 {dr : Nat} {p : Nat → Bool} (hd : dr < 5) : ∀ m, dr < m → z_cnt (fun k => z_in dr k && p k) m = z_cnt (fun k => z_in dr k && p k) (dr + 1)
  | 0, h => absurd h (Nat.not_lt_zero _)
  | m + 1, h => by
    by_cases e : m = dr
    · rw [e]
    · rw [z_cnt_s, z_cnt_in2 hd m (by omega), show z_in dr m = false from decide_eq_false (fun z => by omega)]
      simp
end
section
/-! THE REFERENCE'S SPRINGS -/
def z_np (S : z_S) (dr b : Nat) : Nat := if dr = 6 then 1 else z_pc S dr b (S 1 b)
def z_spb (S : z_S) (bk : Nat) : Nat → Nat := z_sm (fun b => if z_new S bk b then z_np S (z_drw S bk b) b else 0)
/-- one item's springs from a place of the rows on -/
def z_F1 (g : sx_F) (S : z_S) (dr b s0 : Nat) : Prop := (dr = 6 ∧ g 17 s0 = 0 ∧ g 18 s0 = nI 24 ∧ g 19 s0 = nI 16) ∨ (dr ≠ 6 ∧ ∀ q, q < S 1 b → z_pl S dr b q = true → g 17 (s0 + z_pc S dr b q) = nI q ∧ g 18 (s0 + z_pc S dr b q) = nI (z_wd S dr b q) ∧ g 19 (s0 + z_pc S dr b q) = nI (z_le S dr b q))
/-- the places of a bar, written one behind the other -/
def z_Fa (g : sx_F) (S : z_S) (dr b s0 p : Nat) : Prop := ∀ q, q < p → z_pl S dr b q = true → g 17 (s0 + z_pc S dr b q) = nI q ∧ g 19 (s0 + z_pc S dr b q) = nI (z_le S dr b q)
/-- the instruments of a drawer, at one sixteenth: how many begin, how many sound -/
theorem m_count {S : z_S} {dr b p : Nat} {B : Int32 → Int32 → Int32 → Prop} (hd : dr ≤ 5) (st : ∀ k x y, k < 5 → z_in dr k = true → B (nI (x + (if 0 < z_bg S (12 * k + b) (S 1 b) p then 1 else 0))) (nI (y + (if z_bg S (12 * k + b) (S 1 b) p = 2 then 1 else 0))) (nI (k + 1)) → B (nI x) (nI y) (nI k)) (fin : B (nI (z_bn S dr b p 5)) (nI (z_sn S dr b p 5)) (nI (if dr = 5 then 5 else dr + 1))) : B (nI 0) (nI 0) (nI (if dr = 5 then 0 else dr)) := by
  by_cases e : dr = 5
  · rw [if_pos e] at fin ⊢
    have all : ∀ k, z_in dr k = true := fun k => decide_eq_true (Or.inl e)
    refine z_up (B := fun k => B (nI (z_bn S dr b p k)) (nI (z_sn S dr b p k)) (nI k)) 5 (fun k hk ih => ?_)
    by_cases c : k = 5
    · rw [c]; exact fin
    · refine st k _ _ (by omega) (all k) ?_
      have i2 := ih (by omega)
      rw [show z_bn S dr b p (k + 1) = z_bn S dr b p k + (if z_in dr k && decide (0 < z_bg S (12 * k + b) (S 1 b) p) then 1 else 0) from rfl, show z_sn S dr b p (k + 1) = z_sn S dr b p k + (if z_in dr k && decide (z_bg S (12 * k + b) (S 1 b) p = 2) then 1 else 0) from rfl, all k] at i2
      simp only [Bool.true_and, decide_eq_true_eq] at i2
      exact i2
  · rw [if_neg e] at fin ⊢
    have hd5 : dr < 5 := by omega
    refine st dr 0 0 hd5 (decide_eq_true (Or.inr rfl)) ?_
    have e1 : z_bn S dr b p 5 = 0 + (if 0 < z_bg S (12 * dr + b) (S 1 b) p then 1 else 0) := by
      unfold z_bn
      rw [z_cnt_in2 hd5 5 hd5, z_cnt_s, z_cnt_in hd5 dr (Nat.le_refl _), show z_in dr dr = true from decide_eq_true (Or.inr rfl)]
      simp only [Bool.true_and, decide_eq_true_eq]
    have e2 : z_sn S dr b p 5 = 0 + (if z_bg S (12 * dr + b) (S 1 b) p = 2 then 1 else 0) := by
      unfold z_sn
      rw [z_cnt_in2 hd5 5 hd5, z_cnt_s, z_cnt_in hd5 dr (Nat.le_refl _), show z_in dr dr = true from decide_eq_true (Or.inr rfl)]
      simp only [Bool.true_and, decide_eq_true_eq]
    rw [← e1, ← e2]
    exact fin
theorem z_sm_cnt {p : Nat → Bool} {w : Nat → Nat} {a : Nat} : ∀ b, a ≤ b → z_cnt p a = z_cnt p b → z_sm (fun x => if p x then w x else 0) a = z_sm (fun x => if p x then w x else 0) b
  | 0, h, _ => by rw [show a = 0 by omega]
  | b + 1, h, h2 => by
    by_cases e : a = b + 1
    · rw [e]
    · have m1 := z_cnt_mono (p := p) (show a ≤ b by omega)
      rw [z_cnt_s] at h2
      cases hn : p b
      · rw [hn] at h2
        rw [z_sm_cnt b (by omega) (by simpa using h2)]
        show _ = z_sm _ b + (if p b then w b else 0)
        rw [hn]; rfl
      · rw [hn] at h2
        simp at h2
        omega
theorem z_sm_cnt' {p : Nat → Bool} {w : Nat → Nat} {a b : Nat} (h : z_cnt p a = z_cnt p b) : z_sm (fun x => if p x then w x else 0) a = z_sm (fun x => if p x then w x else 0) b := by
  rcases Nat.le_total a b with c | c
  · exact z_sm_cnt b c h
  · exact (z_sm_cnt a c h.symm).symm
theorem z_sm_mono {w : Nat → Nat} {a b : Nat} (h : a ≤ b) : z_sm w a ≤ z_sm w b := by
  induction b with
  | zero => rw [show a = 0 by omega]; exact Nat.le_refl _
  | succ b ih =>
    by_cases e : a = b + 1
    · rw [e]; exact Nat.le_refl _
    · exact Nat.le_trans (ih (by omega)) (Nat.le_add_right _ _)
theorem z_sm_le {w : Nat → Nat} {c : Nat} (h : ∀ x, w x ≤ c) : ∀ n, z_sm w n ≤ c * n
  | 0 => Nat.zero_le _
  | n + 1 => by
    have := z_sm_le h n
    have := h n
    show z_sm w n + w n ≤ _
    rw [Nat.mul_succ]
    omega
theorem z_nx_yes {p : Nat → Bool} {q : Nat} : ∀ d a, a ≤ q → q < a + d → p q = true → (∀ y, a ≤ y → y < q → p y = false) → z_nx p d a = q
  | 0, a, h1, h2, _, _ => by omega
  | d + 1, a, h1, h2, h3, h4 => by
    show (if p a then a else z_nx p d (a + 1)) = q
    by_cases e : a = q
    · rw [e, h3]; rfl
    · rw [h4 a (Nat.le_refl _) (by omega)]
      exact z_nx_yes d (a + 1) (by omega) (by omega) h3 (fun y hy hy2 => h4 y (by omega) hy2)
theorem z_nx_no {p : Nat → Bool} : ∀ d a, (∀ y, a ≤ y → y < a + d → p y = false) → z_nx p d a = a + d
  | 0, a, _ => rfl
  | d + 1, a, h => by
    show (if p a then a else z_nx p d (a + 1)) = _
    rw [h a (Nat.le_refl _) (by omega)]
    show z_nx p d (a + 1) = _
    rw [z_nx_no d (a + 1) (fun y hy hy2 => h y (by omega) (by omega))]
    omega
/-- the items' springs as they stand in the reference's rows, of the items before one -/
def z_Y (g : sx_F) (S : z_S) (bk j : Nat) : Prop := (∀ b, b ≤ S 0 0 → z_it S bk b ≤ j → g 16 (z_it S bk b) = nI (z_spb S bk b)) ∧ ∀ b, b < S 0 0 → z_new S bk b = true → z_it S bk b < j → z_F1 g S (z_drw S bk b) b (z_spb S bk b) ∧ g 20 (z_it S bk b) = nI (8 + z_Wb S (z_drw S bk b) b) ∧ g 21 (z_it S bk b) = nI (8 + z_Lb S (z_drw S bk b) b)
theorem z_np_le {S : z_S} {bk b : Nat} (W : z_W S) (hb : b < S 0 0) : z_np S (z_drw S bk b) b ≤ 32 := by
  have hlen := W.2.1 b hb
  unfold z_np
  split
  · omega
  · have := z_cnt_le (p := z_pl S (z_drw S bk b) b) (S 1 b)
    have e : z_pc S (z_drw S bk b) b (S 1 b) ≤ S 1 b := this
    omega
theorem z_spb_le {S : z_S} {bk : Nat} (W : z_W S) : ∀ b, b ≤ S 0 0 → z_spb S bk b ≤ 32 * b
  | 0, _ => Nat.zero_le _
  | b + 1, h => by
    have i := z_spb_le (bk := bk) W b (by omega)
    have q := z_np_le (bk := bk) W (show b < S 0 0 by omega)
    have e : z_spb S bk (b + 1) = z_spb S bk b + (if z_new S bk b then z_np S (z_drw S bk b) b else 0) := rfl
    rw [e]
    split <;> omega
end
section
theorem z_F1.cg {g g' : sx_F} {S : z_S} {dr b s0 : Nat} (h : z_F1 g S dr b s0) (c : ∀ k i, k = 17 ∨ k = 18 ∨ k = 19 → s0 ≤ i → i < s0 + z_np S dr b → g' k i = g k i) : z_F1 g' S dr b s0 := by
  unfold z_np at c
  rcases h with ⟨h1, h2, h3, h4⟩ | ⟨h1, h2⟩
  · rw [if_pos h1] at c
    exact Or.inl ⟨h1, by rw [c 17 s0 (by decide) (by omega) (by omega)]; exact h2, by rw [c 18 s0 (by decide) (by omega) (by omega)]; exact h3, by rw [c 19 s0 (by decide) (by omega) (by omega)]; exact h4⟩
  · rw [if_neg h1] at c
    refine Or.inr ⟨h1, fun q hq hp => ?_⟩
    have lt := z_cnt_lt (p := z_pl S dr b) hq hp
    have lt' : z_pc S dr b q < z_pc S dr b (S 1 b) := lt
    obtain ⟨a1, a2, a3⟩ := h2 q hq hp
    rw [c 17 _ (by decide) (by omega) (by omega), c 18 _ (by decide) (by omega) (by omega), c 19 _ (by decide) (by omega) (by omega)]
    exact ⟨a1, a2, a3⟩
theorem m_laysSprings {g : sx_F} {S : z_S} {bk : Nat} {Q : sx_F → Prop} (M : z_M g S) (W : z_W S) (hbk : bk ≤ 5) (H : z_H g S bk (S 0 0)) (h : ∀ g' : sx_F, (∀ k, (k ≤ 15 ∨ 22 ≤ k) → g' k = g k) → z_Y g' S bk (z_it S bk (S 0 0)) → Q g') : P_X7_laysSprings g Q := by
  have hn := W.1
  have hitn : z_it S bk (S 0 0) ≤ S 0 0 := z_cnt_le _
  intro B9 B51 B73 B78 B109 B139 B155 B174 B195 B201 B209 B241 B293 B336 B369 b9 b51 b73 b78 b109 b139 b155 b174 b195 b201 b209 b241 b293 b336 b369
  refine ⟨by unfold vp_in; decide, nm_e ?_⟩
  rw [sb_cl0]
  have key : ∀ g' : sx_F, (∀ k, (k ≤ 15 ∨ 22 ≤ k) → g' k = g k) → z_Y g' S bk 0 → B9 g' (nI 0) := by
    refine z_up (B := fun j => ∀ g' : sx_F, (∀ k, (k ≤ 15 ∨ 22 ≤ k) → g' k = g k) → z_Y g' S bk j → B9 g' (nI j)) (z_it S bk (S 0 0)) (fun j hj ih => ?_)
    intro g1 f1 Y
    refine b9 _ _ ?_
    rw [f1 0 (by decide), H.1]
    refine pk_le (z_it S bk (S 0 0)) j (fun c => h g1 f1 (by rw [show z_it S bk (S 0 0) = j by omega]; exact Y)) (fun c => ?_)
    obtain ⟨x, hx, hnx, hjx⟩ := z_cnt_ex (p := z_new S bk) (S 0 0) j c
    have hjx : z_it S bk x = j := hjx
    have hlen := W.2.1 x hx
    have hH := H.2.1 x hx hnx
    rw [hjx] at hH
    have hs := Y.1 x (by omega) (by omega)
    rw [hjx] at hs
    have hsle := z_spb_le (bk := bk) W x (by omega)
    have hnple := z_np_le (bk := bk) W hx
    have hdr := z_drw_le (S := S) (bk := bk) (b := x) hbk
    have hsp1 : z_spb S bk (x + 1) = z_spb S bk x + z_np S (z_drw S bk x) x := by
      show z_spb S bk x + (if z_new S bk x then z_np S (z_drw S bk x) x else 0) = _
      rw [hnx]; rfl
    have hold : ∀ b, z_new S bk b = true → z_it S bk b < j → z_spb S bk b + z_np S (z_drw S bk b) b ≤ z_spb S bk x := fun b hb hb2 => by
      have lt : b < x := Nat.lt_of_not_le (fun z => by
        have := z_cnt_mono (p := z_new S bk) z
        have e : z_it S bk x ≤ z_it S bk b := this
        omega)
      have m := z_sm_mono (w := fun b => if z_new S bk b then z_np S (z_drw S bk b) b else 0) (show b + 1 ≤ x from lt)
      have e : z_spb S bk (b + 1) = z_spb S bk b + z_np S (z_drw S bk b) b := by
        show z_spb S bk b + (if z_new S bk b then z_np S (z_drw S bk b) b else 0) = _
        rw [hb]; rfl
      have m' : z_spb S bk (b + 1) ≤ z_spb S bk x := m
      omega
    have hsame : ∀ b, z_new S bk b = true → z_it S bk b = j → b = x := fun b hb hb2 => by
      rcases Nat.lt_trichotomy b x with z | z | z
      · have := z_cnt_lt z hb
        have e : z_it S bk b < z_it S bk x := this
        omega
      · exact z
      · have := z_cnt_lt z hnx
        have e : z_it S bk x < z_it S bk b := this
        omega
    have hspb : ∀ b, b ≤ S 0 0 → z_it S bk b = j + 1 → z_spb S bk b = z_spb S bk x + z_np S (z_drw S bk x) x := fun b hb hb2 => by
      rw [← hsp1]
      refine z_sm_cnt' (p := z_new S bk) (w := fun b => z_np S (z_drw S bk b) b) ?_
      show z_it S bk b = z_it S bk (x + 1)
      rw [hb2, z_it_s, hnx, hjx]; rfl
    have hWb : z_Wb S (z_drw S bk x) x = if z_drw S bk x = 6 then 24 else z_ws S (z_drw S bk x) x (S 1 x) := rfl
    have hLb : z_Lb S (z_drw S bk x) x = if z_drw S bk x = 6 then 16 else z_ls S (z_drw S bk x) x (S 1 x) := rfl
    have hnp : z_np S (z_drw S bk x) x = if z_drw S bk x = 6 then 1 else z_pc S (z_drw S bk x) x (S 1 x) := rfl
    generalize hdg : z_drw S bk x = dr at hH hnple hdr hsp1 hspb hWb hLb hnp
    generalize hs0 : z_spb S bk x = s0 at hs hsle hsp1 hold hspb
    generalize hnpg : z_np S dr x = np at hnple hsp1 hspb hnp
    -- the item's end: its sums
    have T336 : ∀ g3 : sx_F, (∀ k, k ≠ 17 → k ≠ 18 → k ≠ 19 → g3 k = g1 k) → (∀ k i, i < s0 → g3 k i = g1 k i) → z_F1 g3 S dr x s0 → B336 g3 (nI j) (nI (s0 + np)) := by
      intro g3 a1 a2 a3
      refine b336 _ _ _ ?_
      rw [nI_1, nI_clamp (n := j + 1) (by omega), nI_clamp (n := j) (by omega)]
      refine ⟨vp_in_nI (by omega) (by omega), nm_e ⟨vp_in_nI (by omega) (by omega), nm_e ⟨vp_in_nI (by omega) (by omega), nm_e ⟨vp_in_nI (by omega) (by omega), nm_e ?_⟩⟩⟩⟩
      rw [show (sx_u (sx_u (sx_u g3 16 (j + 1) (nI (s0 + np))) 20 j 8) 21 j 8) 16 j = nI s0 by rw [sx_u_n (by decide), sx_u_n (by decide), sx_u_s, pk_un (by omega), a1 16 (by decide) (by decide) (by decide)]; exact hs]
      generalize hg4 : sx_u (sx_u (sx_u g3 16 (j + 1) (nI (s0 + np))) 20 j 8) 21 j 8 = g4
      have c20 : g4 20 j = nI (8 + 0) := by rw [← hg4, sx_u_n (by decide), sx_u_s, pk_us]; rfl
      have c21 : g4 21 j = nI (8 + 0) := by rw [← hg4, sx_u_s, pk_us]; rfl
      have c20' : ∀ i, i ≠ j → g4 20 i = g1 20 i := fun i hi => by rw [← hg4, sx_u_n (by decide), sx_u_s, pk_un hi, sx_u_n (by decide), a1 20 (by decide) (by decide) (by decide)]
      have c21' : ∀ i, i ≠ j → g4 21 i = g1 21 i := fun i hi => by rw [← hg4, sx_u_s, pk_un hi, sx_u_n (by decide), sx_u_n (by decide), a1 21 (by decide) (by decide) (by decide)]
      have c16 : g4 16 (j + 1) = nI (s0 + np) := by rw [← hg4, sx_u_n (by decide), sx_u_n (by decide), sx_u_s, pk_us]
      have c16' : ∀ i, i ≠ j + 1 → g4 16 i = g1 16 i := fun i hi => by rw [← hg4, sx_u_n (by decide), sx_u_n (by decide), sx_u_s, pk_un hi, a1 16 (by decide) (by decide) (by decide)]
      have ck : ∀ k, k ≠ 16 → k ≠ 20 → k ≠ 21 → g4 k = g3 k := fun k h1 h2 h3 => by rw [← hg4, sx_u_n h3, sx_u_n h2, sx_u_n h1]
      have loop : ∀ g5 : sx_F, (∀ k, k ≠ 20 → k ≠ 21 → g5 k = g4 k) → (∀ i, i ≠ j → g5 20 i = g4 20 i ∧ g5 21 i = g4 21 i) → (∃ a c, g5 20 j = nI (8 + a) ∧ g5 21 j = nI (8 + c) ∧ ((dr = 6 ∧ a = 24 * 0 ∧ c = 16 * 0) ∨ (dr ≠ 6 ∧ ∃ q, q ≤ S 1 x ∧ z_pc S dr x q = 0 ∧ a = z_ws S dr x q ∧ c = z_ls S dr x q))) → B369 g5 (nI j) (nI (s0 + np)) (nI (s0 + 0)) := by
        refine z_up (B := fun i => ∀ g5 : sx_F, (∀ k, k ≠ 20 → k ≠ 21 → g5 k = g4 k) → (∀ i, i ≠ j → g5 20 i = g4 20 i ∧ g5 21 i = g4 21 i) → (∃ a c, g5 20 j = nI (8 + a) ∧ g5 21 j = nI (8 + c) ∧ ((dr = 6 ∧ a = 24 * i ∧ c = 16 * i) ∨ (dr ≠ 6 ∧ ∃ q, q ≤ S 1 x ∧ z_pc S dr x q = i ∧ a = z_ws S dr x q ∧ c = z_ls S dr x q))) → B369 g5 (nI j) (nI (s0 + np)) (nI (s0 + i))) np (fun i hi ihi => ?_)
        intro g5 d1 d2 d3
        obtain ⟨a, cc, d4, d5, d6⟩ := d3
        refine b369 _ _ _ _ (pk_le (s0 + np) (s0 + i) (fun z => nm_e ?_) (fun z => ?_))
        · have ei : i = np := by omega
          rw [nI_1]
          refine ih c g5 (fun k hk => by rw [d1 k (by omega) (by omega), ck k (by omega) (by omega) (by omega), a1 k (by omega) (by omega) (by omega)]; exact f1 k hk) ⟨fun b hb hb2 => ?_, fun b hb hb2 hb3 => ?_⟩
          · rw [d1 16 (by decide) (by decide)]
            by_cases e : z_it S bk b = j + 1
            · rw [e, c16, hspb b hb e]
            · rw [c16' _ e]; exact Y.1 b hb (by omega)
          · by_cases e : z_it S bk b = j
            · have := hsame b hb2 e
              subst this
              rw [hdg, hs0, e, d4, d5]
              refine ⟨a3.cg (fun k i hk _ _ => by rw [d1 k (by omega) (by omega), ck k (by omega) (by omega) (by omega)]), ?_⟩
              rw [hWb, hLb]
              rcases d6 with ⟨e1, e2, e3⟩ | ⟨e1, q, e2, e3, e4, e5⟩
              · rw [if_pos e1] at hnp ⊢
                rw [if_pos e1, e2, e3, ei, hnp]
                exact ⟨rfl, rfl⟩
              · rw [if_neg e1] at hnp ⊢
                rw [if_neg e1, e4, e5]
                have eq : z_cnt (z_pl S dr b) q = z_cnt (z_pl S dr b) (S 1 b) := by
                  show z_pc S dr b q = z_pc S dr b (S 1 b)
                  rw [e3, ei, hnp]
                have q1 : z_ws S dr b q = z_ws S dr b (S 1 b) := z_sm_cnt' eq
                have q2 : z_ls S dr b q = z_ls S dr b (S 1 b) := z_sm_cnt' eq
                rw [q1, q2]
                exact ⟨rfl, rfl⟩
            · have lt : z_it S bk b < j := by omega
              obtain ⟨y1, y2, y3⟩ := Y.2 b hb hb2 lt
              have ho := hold b hb2 lt
              refine ⟨y1.cg (fun k i hk h1 h2 => ?_), ?_, ?_⟩
              · rw [d1 k (by omega) (by omega), ck k (by omega) (by omega) (by omega)]
                exact a2 k i (by omega)
              · rw [(d2 _ e).1, c20' _ e]; exact y2
              · rw [(d2 _ e).2, c21' _ e]; exact y3
        · -- one spring more
          have hin : i < np := by omega
          rw [nI_clamp (n := s0 + i) (by omega), nI_clamp (n := j) (by omega)]
          have v18 : ∃ wi li, g5 18 (s0 + i) = nI wi ∧ g5 19 (s0 + i) = nI li ∧ ((dr = 6 ∧ a + wi = 24 * (i + 1) ∧ cc + li = 16 * (i + 1)) ∨ (dr ≠ 6 ∧ ∃ q, q ≤ S 1 x ∧ z_pc S dr x q = i + 1 ∧ a + wi = z_ws S dr x q ∧ cc + li = z_ls S dr x q)) := by
            have g18 : g5 18 = g3 18 := by rw [d1 18 (by decide) (by decide), ck 18 (by decide) (by decide) (by decide)]
            have g19 : g5 19 = g3 19 := by rw [d1 19 (by decide) (by decide), ck 19 (by decide) (by decide) (by decide)]
            rw [g18, g19]
            rcases d6 with ⟨e1, e2, e3⟩ | ⟨e1, q, e2, e3, e4, e5⟩
            · rw [if_pos e1] at hnp
              have i0 : i = 0 := by omega
              rcases a3 with ⟨-, h2, h3, h4⟩ | ⟨h1, -⟩
              · exact ⟨24, 16, by rw [i0, Nat.add_zero]; exact h3, by rw [i0, Nat.add_zero]; exact h4, Or.inl ⟨e1, by omega, by omega⟩⟩
              · exact absurd e1 h1
            · rw [if_neg e1] at hnp
              rcases a3 with ⟨h1, -⟩ | ⟨-, h2⟩
              · exact absurd h1 e1
              · obtain ⟨q0, k1, k2, k3⟩ := z_cnt_ex (p := z_pl S dr x) (S 1 x) i (by show i < z_pc S dr x (S 1 x); omega)
                have k3' : z_pc S dr x q0 = i := k3
                obtain ⟨-, m2, m3⟩ := h2 q0 k1 k2
                rw [k3'] at m2 m3
                refine ⟨_, _, m2, m3, Or.inr ⟨e1, q0 + 1, by omega, ?_, ?_, ?_⟩⟩
                · show z_pc S dr x q0 + (if z_pl S dr x q0 then 1 else 0) = _
                  rw [k2, k3']; rfl
                · show _ = z_ws S dr x q0 + (if z_pl S dr x q0 then z_wd S dr x q0 else 0)
                  rw [k2, e4, show z_ws S dr x q = z_ws S dr x q0 from z_sm_cnt' (by show z_pc S dr x q = z_pc S dr x q0; rw [e3, k3'])]; rfl
                · show _ = z_ls S dr x q0 + (if z_pl S dr x q0 then z_le S dr x q0 else 0)
                  rw [k2, e5, show z_ls S dr x q = z_ls S dr x q0 from z_sm_cnt' (by show z_pc S dr x q = z_pc S dr x q0; rw [e3, k3'])]; rfl
          obtain ⟨wi, li, v1, v2, v3⟩ := v18
          refine ⟨vp_in_nI (by omega) (by omega), vp_in_nI (by omega) (by omega), vp_in_nI (by omega) (by omega), nm_e ⟨vp_in_nI (by omega) (by omega), vp_in_nI (by omega) (by omega), vp_in_nI (by omega) (by omega), nm_e (nm_e ?_)⟩⟩
          rw [nI_1, d4, v1, nI_add, sx_u_n (by decide : (21 : Nat) ≠ 20), sx_u_n (by decide : (19 : Nat) ≠ 20), d5, v2, nI_add]
          refine ihi hin _ (fun k h1 h2 => by rw [sx_u_n h2, sx_u_n h1]; exact d1 k h1 h2) (fun i' hi' => ⟨by rw [sx_u_n (by decide), sx_u_s, pk_un hi']; exact (d2 i' hi').1, by rw [sx_u_s, pk_un hi', sx_u_n (by decide)]; exact (d2 i' hi').2⟩) ⟨a + wi, cc + li, by rw [sx_u_n (by decide), sx_u_s, pk_us, Nat.add_assoc], by rw [sx_u_s, pk_us, Nat.add_assoc], v3⟩
      refine loop g4 (fun _ _ _ => rfl) (fun _ _ => ⟨rfl, rfl⟩) ⟨0, 0, c20, c21, ?_⟩
      by_cases e : dr = 6
      · exact Or.inl ⟨e, rfl, rfl⟩
      · exact Or.inr ⟨e, 0, by omega, rfl, rfl, rfl⟩
    have f13 : g1 13 j = nI x := by rw [f1 13 (by decide)]; exact hH.1
    have f15 : g1 15 j = z_dr dr := by rw [f1 15 (by decide)]; exact hH.2
    have flen : g1 1 x = nI (S 1 x) := by rw [f1 1 (by decide)]; exact M.2.1 x (by omega)
    have hpcl : z_pc S dr x (S 1 x) ≤ S 1 x := z_cnt_le _
    -- the widths
    have T201 : ∀ (nn : Nat) (g2 : sx_F), nn = (if dr = 6 then 0 else z_pc S dr x (S 1 x)) → (∀ k, k ≠ 17 → k ≠ 18 → k ≠ 19 → g2 k = g1 k) → (∀ k i, i < s0 → g2 k i = g1 k i) → (dr ≠ 6 → z_Fa g2 S dr x s0 (S 1 x)) → B201 g2 (nI j) (nI (s0 + nn)) (nI x) := by
      intro nn g2 hnn a1 a2 a3
      have hnn32 : nn ≤ 32 := by rw [hnn]; split <;> omega
      refine b201 _ _ _ _ ⟨vp_in_nI (by omega) (by omega), nm_e ?_⟩
      rw [nI_clamp (by omega), a1 16 (by decide) (by decide) (by decide), hs]
      have loop : ∀ g3 : sx_F, (∀ k, k ≠ 18 → g3 k = g2 k) → (∀ i, i < s0 → g3 18 i = g2 18 i) → (∀ q, q < S 1 x → z_pl S dr x q = true → z_pc S dr x q < 0 → g3 18 (s0 + z_pc S dr x q) = nI (z_wd S dr x q)) → B209 g3 (nI j) (nI (s0 + nn)) (nI x) (nI (s0 + 0)) := by
        refine z_up (B := fun i => ∀ g3 : sx_F, (∀ k, k ≠ 18 → g3 k = g2 k) → (∀ i, i < s0 → g3 18 i = g2 18 i) → (∀ q, q < S 1 x → z_pl S dr x q = true → z_pc S dr x q < i → g3 18 (s0 + z_pc S dr x q) = nI (z_wd S dr x q)) → B209 g3 (nI j) (nI (s0 + nn)) (nI x) (nI (s0 + i))) nn (fun i hi ihi => ?_)
        intro g3 d1 d2 d3
        refine b209 _ _ _ _ _ (pk_le (s0 + nn) (s0 + i) (fun z => ⟨vp_in_nI (by omega) (by omega), ?_⟩) (fun z => ?_))
        · rw [nI_clamp (n := j) (by omega), d1 15 (by decide), a1 15 (by decide) (by decide) (by decide), f15]
          by_cases e6 : dr = 6
          · rw [if_pos e6] at hnp hnn
            rw [hnn, Nat.add_zero, nI_clamp (n := s0) (by omega)]
            refine ⟨fun _ => ⟨vp_in_nI (by omega) (by omega), nm_e ⟨vp_in_nI (by omega) (by omega), nm_e ⟨vp_in_nI (by omega) (by omega), nm_e (nm_e ?_)⟩⟩⟩, fun y => absurd ((z_dr_m1 (by omega)).mpr e6) y⟩
            rw [nI_1, ← hnp]
            refine T336 _ (fun k h1 h2 h3 => by rw [sx_u_n h3, sx_u_n h2, sx_u_n h1, d1 k h2]; exact a1 k h1 h2 h3) (fun k i hi => ?_) (Or.inl ⟨e6, ?_, ?_, ?_⟩)
            · have base : g3 k i = g1 k i := by
                by_cases e : k = 18
                · rw [e, d2 i hi]; exact a2 18 i hi
                · rw [d1 k e]; exact a2 k i hi
              unfold sx_u
              unfold upd
              by_cases e1 : k = 19
              · subst e1; rw [if_pos rfl, if_neg (by omega), if_neg (by decide), if_neg (by decide)]; exact base
              · rw [if_neg e1]
                by_cases e2 : k = 18
                · subst e2; rw [if_pos rfl, if_neg (by omega), if_neg (by decide)]; exact base
                · rw [if_neg e2]
                  by_cases e3 : k = 17
                  · subst e3; rw [if_pos rfl, if_neg (by omega)]; exact base
                  · rw [if_neg e3]; exact base
            · rw [sx_u_n (by decide), sx_u_n (by decide), sx_u_s, pk_us]
            · rw [sx_u_n (by decide), sx_u_s, pk_us]; rfl
            · rw [sx_u_s, pk_us]; rfl
          · rw [if_neg e6] at hnp hnn
            refine ⟨fun y => absurd ((z_dr_m1 (by omega)).mp y) e6, fun _ => ?_⟩
            rw [hnn, ← hnp]
            have fa := a3 e6
            refine T336 g3 (fun k h1 h2 h3 => by rw [d1 k h2]; exact a1 k h1 h2 h3) (fun k i hi => ?_) (Or.inr ⟨e6, fun q hq hp => ?_⟩)
            · by_cases e : k = 18
              · rw [e, d2 i hi]; exact a2 18 i hi
              · rw [d1 k e]; exact a2 k i hi
            · have lt := z_cnt_lt (p := z_pl S dr x) hq hp
              have lt' : z_pc S dr x q < z_pc S dr x (S 1 x) := lt
              obtain ⟨m1, m2⟩ := fa q hq hp
              rw [d1 17 (by decide), d1 19 (by decide)]
              exact ⟨m1, d3 q hq hp (by omega), m2⟩
        · have hin : i < nn := by omega
          have e6 : dr ≠ 6 := fun e => by rw [if_pos e] at hnn; omega
          rw [if_neg e6] at hnn
          have fa := a3 e6
          obtain ⟨q, k1, k2, k3⟩ := z_cnt_ex (p := z_pl S dr x) (S 1 x) i (by show i < z_pc S dr x (S 1 x); omega)
          have k3' : z_pc S dr x q = i := k3
          obtain ⟨m1, m2⟩ := fa q k1 k2
          rw [k3'] at m1 m2
          have epc : z_pc S dr x (q + 1) = i + 1 := by
            show z_pc S dr x q + (if z_pl S dr x q then 1 else 0) = _
            rw [k2, k3']; rfl
          have hnx := z_nx_le (p := z_pl S dr x) (S 1 x - (q + 1)) (q + 1)
          have hhv := z_hv_le 6 (z_nx (z_pl S dr x) (S 1 x - (q + 1)) (q + 1) - q)
          have h5 := z_sn_5 (S := S) (dr := dr) (b := x) (p := q)
          have hle : z_le S dr x q = 4 + z_sn S dr x q 5 := rfl
          have put : B293 g3 (nI j) (nI (s0 + nn)) (nI x) (nI (s0 + i)) (nI (s0 + i)) (nI (z_wd S dr x q)) := by
            refine b293 _ _ _ _ _ _ _ ⟨vp_in_nI (by omega) (by omega), nm_e (nm_e ?_)⟩
            rw [nI_1, nI_clamp (by omega)]
            refine ihi hin _ (fun k hk => by rw [sx_u_n hk]; exact d1 k hk) (fun i' hi' => by rw [sx_u_s, pk_un (by omega)]; exact d2 i' hi') (fun q' h1 h2 h3 => ?_)
            rw [sx_u_s]
            by_cases e : z_pc S dr x q' = i
            · have eq : q' = q := by
                rcases Nat.lt_trichotomy q' q with y | y | y
                · have := z_cnt_lt y h2
                  have e2 : z_pc S dr x q' < z_pc S dr x q := this
                  omega
                · exact y
                · have := z_cnt_lt y k2
                  have e2 : z_pc S dr x q < z_pc S dr x q' := this
                  omega
              rw [e, eq, pk_us]
            · rw [pk_un (by omega)]
              exact d3 q' h1 h2 (by omega)
          have go : B241 g3 (nI j) (nI (s0 + nn)) (nI x) (nI (s0 + i)) (nI (z_nx (z_pl S dr x) (S 1 x - (q + 1)) (q + 1))) := by
            refine b241 _ _ _ _ _ _ ⟨vp_in_nI (by omega) (by omega), nm_e ?_⟩
            rw [nI_clamp (n := s0 + i) (by omega), d1 17 (by decide), m1, pk_sub (by omega)]
            refine m_halvings (by omega) (nm_e ⟨vp_in_nI (by omega) (by omega), ?_⟩)
            rw [d1 19 (by decide), m2, show (6 : Int32) + 3 * nI (z_hv 6 (z_nx (z_pl S dr x) (S 1 x - (q + 1)) (q + 1) - q)) = nI (6 + 3 * z_hv 6 (z_nx (z_pl S dr x) (S 1 x - (q + 1)) (q + 1) - q)) by rw [z_l3, z_l6, pk_mul, nI_add]]
            unfold z_wd at put
            refine pk_le (z_le S dr x q) (6 + 3 * z_hv 6 (z_nx (z_pl S dr x) (S 1 x - (q + 1)) (q + 1) - q)) (fun y => ?_) (fun y => ⟨vp_in_nI (by omega) (by omega), ?_⟩)
            · rw [if_neg (by omega)] at put; exact put
            · rw [if_pos y] at put; exact put
          rw [nI_1, nI_clamp (n := x) (by omega), nI_clamp (n := s0 + i + 1) (by omega)]
          refine pk_le (s0 + nn) (s0 + i + 1) (fun y => ⟨vp_in_nI (by omega) (by omega), ?_⟩) (fun y => ⟨vp_in_nI (by omega) (by omega), ?_⟩)
          · rw [z_nx_no (S 1 x - (q + 1)) (q + 1) (fun w hw hw2 => by
              cases hp : z_pl S dr x w
              · rfl
              · have q1 := z_cnt_lt (p := z_pl S dr x) (show w < S 1 x by omega) hp
                have q2 := z_cnt_mono (p := z_pl S dr x) hw
                have q1' : z_pc S dr x w < z_pc S dr x (S 1 x) := q1
                have q2' : z_pc S dr x (q + 1) ≤ z_pc S dr x w := q2
                omega), show q + 1 + (S 1 x - (q + 1)) = S 1 x by omega] at go
            rw [d1 1 (by decide), a1 1 (by decide) (by decide) (by decide), flen]
            exact go
          · obtain ⟨q', r1, r2, r3⟩ := z_cnt_ex (p := z_pl S dr x) (S 1 x) (i + 1) (by show i + 1 < z_pc S dr x (S 1 x); omega)
            have r3' : z_pc S dr x q' = i + 1 := r3
            have lt : q < q' := Nat.lt_of_not_le (fun w => by
              have := z_cnt_mono (p := z_pl S dr x) w
              have e2 : z_pc S dr x q' ≤ z_pc S dr x q := this
              omega)
            rw [z_nx_yes (q := q') (S 1 x - (q + 1)) (q + 1) lt (by omega) r2 (fun w hw hw2 => by
              cases hp : z_pl S dr x w
              · rfl
              · have q1 := z_cnt_lt (p := z_pl S dr x) hw2 hp
                have q2 := z_cnt_mono (p := z_pl S dr x) hw
                have q1' : z_pc S dr x w < z_pc S dr x q' := q1
                have q2' : z_pc S dr x (q + 1) ≤ z_pc S dr x w := q2
                omega)] at go
            have m1' := (fa q' r1 r2).1
            rw [r3'] at m1'
            rw [d1 17 (by decide), show s0 + i + 1 = s0 + (i + 1) by omega, m1']
            exact go
      exact loop g2 (fun _ _ => rfl) (fun _ _ => rfl) (fun q _ _ hq => absurd hq (by omega))
    -- the places
    have T78 : dr ≠ 6 → B78 g1 (nI j) (nI (s0 + 0)) (nI x) (nI (if dr = 5 then 0 else dr)) (nI (if dr = 5 then 4 else dr)) (nI 0) := by
      intro e6
      have hd5 : dr ≤ 5 := by omega
      have loop : ∀ g2 : sx_F, (∀ k, k ≠ 17 → k ≠ 19 → g2 k = g1 k) → (∀ k i, i < s0 → g2 k i = g1 k i) → z_Fa g2 S dr x s0 0 → B78 g2 (nI j) (nI (s0 + z_pc S dr x 0)) (nI x) (nI (if dr = 5 then 0 else dr)) (nI (if dr = 5 then 4 else dr)) (nI 0) := by
        refine z_up (B := fun p => ∀ g2 : sx_F, (∀ k, k ≠ 17 → k ≠ 19 → g2 k = g1 k) → (∀ k i, i < s0 → g2 k i = g1 k i) → z_Fa g2 S dr x s0 p → B78 g2 (nI j) (nI (s0 + z_pc S dr x p)) (nI x) (nI (if dr = 5 then 0 else dr)) (nI (if dr = 5 then 4 else dr)) (nI p)) (S 1 x) (fun p hp ihp => ?_)
        intro g2 a1 a2 a3
        have hpcp : z_pc S dr x p ≤ p := z_cnt_le p
        have M2 : z_M g2 S := by
          unfold z_M at M ⊢
          rw [a1 0 (by decide) (by decide), a1 1 (by decide) (by decide), a1 2 (by decide) (by decide), a1 3 (by decide) (by decide), a1 4 (by decide) (by decide), f1 0 (by decide), f1 1 (by decide), f1 2 (by decide), f1 3 (by decide), f1 4 (by decide)]
          exact M
        refine b78 _ _ _ _ _ _ _ ⟨vp_in_nI (by omega) (by omega), ?_⟩
        rw [nI_clamp (n := x) (by omega), M2.2.1 x (by omega)]
        refine pk_le (S 1 x) p (fun z => ?_) (fun z => ⟨vp_in_nI (by omega) (by omega), ?_⟩)
        · have ep : p = S 1 x := by omega
          rw [ep] at a3 ⊢
          exact T201 _ g2 (by rw [if_neg e6]) (fun k h1 h2 h3 => a1 k h1 h3) a2 (fun _ => a3)
        rw [nI_clamp (n := j) (by omega), a1 15 (by decide) (by decide), f15]
        refine ⟨fun y => absurd ((z_dr_m1 (by omega)).mp y) e6, fun _ => ?_⟩
        have epc : z_pc S dr x (p + 1) = z_pc S dr x p + (if z_pl S dr x p then 1 else 0) := rfl
        refine m_count (p := p) (b := x) (S := S) (B := fun u v w => B109 g2 (nI j) (nI (s0 + z_pc S dr x p)) (nI x) (nI (if dr = 5 then 0 else dr)) (nI (if dr = 5 then 4 else dr)) (nI p) u v w) hd5 (fun k u v hk hin hnext => ?_) ?_
        · have hto : k ≤ (if dr = 5 then 4 else dr) := by
            have := of_decide_eq_true hin
            split <;> omega
          have hto5 : (if dr = 5 then 4 else dr) ≤ 5 := by split <;> omega
          have hb2 := z_bg_le (S := S) (s := 12 * k + x) (len := S 1 x) (p := p)
          refine b109 _ _ _ _ _ _ _ _ _ _ (pk_lt (if dr = 5 then 4 else dr) k (fun y => absurd y (by omega)) (fun _ => m_begins M2 W hk hx (by omega) ?_))
          generalize z_bg S (12 * k + x) (S 1 x) p = bb at hb2 hnext
          have nx2 : ∀ w : Nat, w = u + (if 0 < bb then 1 else 0) → B139 g2 (nI j) (nI (s0 + z_pc S dr x p)) (nI x) (nI (if dr = 5 then 0 else dr)) (nI (if dr = 5 then 4 else dr)) (nI p) (nI v) (nI k) (nI bb) (nI u) (nI (if 0 < bb then 1 else 0)) := by
            intro w hw
            refine b139 _ _ _ _ _ _ _ _ _ _ _ _ (nm_e ?_)
            rw [nI_add]
            refine pk_eq bb 2 (fun y => b155 _ _ _ _ _ _ _ _ _ _ _ (nm_e (nm_e ?_))) (fun y => b155 _ _ _ _ _ _ _ _ _ _ _ (nm_e (nm_e ?_)))
            · rw [if_pos y] at hnext
              rw [nI_1, nI_1]; exact hnext
            · rw [if_neg y] at hnext
              rw [nI_1, Int32.add_zero]; exact hnext
          refine pk_le bb 0 (fun y => ?_) (fun y => ?_)
          · have := nx2 _ rfl
            rw [if_neg (show ¬ 0 < bb by omega)] at this
            exact this
          · have := nx2 _ rfl
            rw [if_pos y] at this
            exact this
        · have h5 := z_sn_5 (S := S) (dr := dr) (b := x) (p := p)
          have hbn : z_bn S dr x p 5 ≤ 5 := z_cnt_le 5
          have hto5 : (if dr = 5 then 4 else dr) < (if dr = 5 then 5 else dr + 1) ∧ (if dr = 5 then 5 else dr + 1) ≤ 6 := by split <;> omega
          have nextP : ∀ g3 : sx_F, (∀ k, k ≠ 17 → k ≠ 19 → g3 k = g1 k) → (∀ k i, i < s0 → g3 k i = g1 k i) → z_Fa g3 S dr x s0 (p + 1) → B195 g3 (nI j) (nI (s0 + z_pc S dr x (p + 1))) (nI x) (nI (if dr = 5 then 0 else dr)) (nI (if dr = 5 then 4 else dr)) (nI p) := fun g3 u1 u2 u3 => b195 _ _ _ _ _ _ _ (nm_e (by rw [nI_1]; exact ihp z g3 u1 u2 u3))
          have yes : z_pl S dr x p = true → B174 g2 (nI j) (nI (s0 + z_pc S dr x p)) (nI x) (nI (if dr = 5 then 0 else dr)) (nI (if dr = 5 then 4 else dr)) (nI p) (nI (z_sn S dr x p 5)) := by
            intro y
            rw [y] at epc
            refine b174 _ _ _ _ _ _ _ _ ⟨vp_in_nI (by omega) (by omega), nm_e ⟨vp_in_nI (by omega) (by omega), nm_e (nm_e ?_)⟩⟩
            rw [nI_1, nI_clamp (by omega), show s0 + z_pc S dr x p + 1 = s0 + z_pc S dr x (p + 1) by rw [epc]; rfl, show (4 : Int32) + nI (z_sn S dr x p 5) = nI (z_le S dr x p) from nI_add 4 _]
            refine nextP _ (fun k h1 h2 => by rw [sx_u_n h2, sx_u_n h1]; exact a1 k h1 h2) (fun k i hi => ?_) (fun q hq hq2 => ?_)
            · have base := a2 k i hi
              by_cases e1 : k = 19
              · subst e1; rw [sx_u_s, pk_un (by omega), sx_u_n (by decide)]; exact base
              · rw [sx_u_n e1]
                by_cases e3 : k = 17
                · subst e3; rw [sx_u_s, pk_un (by omega)]; exact base
                · rw [sx_u_n e3]; exact base
            · rw [sx_u_n (by decide : (17 : Nat) ≠ 19), sx_u_s, sx_u_s, sx_u_n (by decide : (19 : Nat) ≠ 17)]
              by_cases eq : q = p
              · rw [eq, pk_us, pk_us]; exact ⟨rfl, rfl⟩
              · have := z_cnt_lt (p := z_pl S dr x) (show q < p by omega) hq2
                have e2 : z_pc S dr x q < z_pc S dr x p := this
                rw [pk_un (by omega), pk_un (by omega)]
                exact a3 q (by omega) hq2
          refine b109 _ _ _ _ _ _ _ _ _ _ (pk_lt (if dr = 5 then 4 else dr) (if dr = 5 then 5 else dr + 1) (fun _ => pk_eq p 0 (fun y => yes (by rw [y]; exact z_pl0 W hd5 hx)) (fun y => pk_le (z_bn S dr x p 5) 0 (fun w => ?_) (fun w => yes (decide_eq_true w)))) (fun y => absurd y (by omega)))
          have np0 : z_pl S dr x p = false := decide_eq_false (by omega)
          rw [np0] at epc
          have nP := nextP g2 a1 a2 (fun q hq hq2 => by
            by_cases eq : q = p
            · rw [eq, np0] at hq2; exact absurd hq2 (by decide)
            · exact a3 q (by omega) hq2)
          rw [epc] at nP
          exact nP
      exact loop g1 (fun _ _ _ => rfl) (fun _ _ _ => rfl) (fun q hq => absurd hq (by omega))
    -- the item's beginning
    rw [nI_clamp (by omega), hs, f13, f15]
    refine ⟨vp_in_nI (by omega) (by omega), nm_e ⟨vp_in_nI (by omega) (by omega), nm_e ⟨vp_in_nI (by omega) (by omega), ?_⟩⟩⟩
    by_cases e6 : dr = 6
    · have em : z_dr dr = -1 := by rw [e6]; rfl
      rw [em]
      refine ⟨fun y => absurd y (by decide), fun _ => ⟨vp_in_nI (by omega) (by omega), b51 _ _ _ _ _ ⟨vp_in_nI (by omega) (by omega), ?_⟩⟩⟩
      rw [nI_clamp (by omega), f15, em]
      refine ⟨fun y => absurd y (by decide), fun _ => ⟨vp_in_nI (by omega) (by omega), b73 _ _ _ _ _ _ (b78 _ _ _ _ _ _ _ ⟨vp_in_nI (by omega) (by omega), ?_⟩)⟩⟩
      have t := T201 0 g1 (by rw [if_pos e6]) (fun _ _ _ _ => rfl) (fun _ _ _ => rfl) (fun y => absurd e6 y)
      rw [nI_clamp (n := j) (by omega), f15, em]
      exact ⟨fun _ => t, fun _ => ⟨vp_in_nI (by omega) (by omega), fun _ => t, fun y => absurd rfl y⟩⟩
    · have t := T78 e6
      rw [z_drn e6]
      refine pk_eq dr 5 (fun y => b51 _ _ _ _ _ ⟨vp_in_nI (by omega) (by omega), ?_⟩) (fun y => ⟨vp_in_nI (by omega) (by omega), b51 _ _ _ _ _ ⟨vp_in_nI (by omega) (by omega), ?_⟩⟩)
      · rw [nI_clamp (by omega), f15, z_drn e6]
        rw [if_pos y, if_pos y] at t
        exact pk_eq dr 5 (fun _ => b73 _ _ _ _ _ _ t) (fun w => absurd y w)
      · rw [nI_clamp (by omega), f15, z_drn e6]
        rw [if_neg y, if_neg y] at t
        exact pk_eq dr 5 (fun w => absurd w y) (fun _ => ⟨vp_in_nI (by omega) (by omega), b73 _ _ _ _ _ _ t⟩)
  refine key _ (fun k hk => sx_u_n (by omega)) ⟨fun b hb hb2 => ?_, fun b hb hb2 hb3 => absurd hb3 (by omega)⟩
  have e0 : z_it S bk b = 0 := by omega
  rw [e0, sx_u_s, pk_us, show z_spb S bk b = z_spb S bk 0 from z_sm_cnt' (by show z_it S bk b = 0; exact e0)]
  rfl
end
section
/-! SILENCE -/
def z_lsd (S : z_S) (s : Nat) : Nat → Nat | 0 => 0 | k + 1 => if S 4 (8 * s + k) = 0 then z_lsd S s k else z_fl S s (k + 1)
theorem z_lsd_le {S : z_S} {s : Nat} : ∀ k, z_lsd S s k ≤ z_fl S s k
  | 0 => Nat.le_refl _
  | k + 1 => by
    have := z_lsd_le (S := S) (s := s) k
    have e : z_fl S s (k + 1) = z_fl S s k + S 3 (8 * s + k) := rfl
    show (if S 4 (8 * s + k) = 0 then z_lsd S s k else z_fl S s (k + 1)) ≤ _
    split <;> omega
def z_bk (S : z_S) (i : Nat) : Nat → Nat | 0 => 0 | b + 1 => (S 1 b - z_lsd S (12 * i + b) (S 2 (12 * i + b))) + (if z_lsd S (12 * i + b) (S 2 (12 * i + b)) = 0 then z_bk S i b else 0)
def z_fv (S : z_S) (s len : Nat) : Nat → Nat → Nat | 0, _ => len | d + 1, k => if S 4 (8 * s + k) = 0 then z_fv S s len d (k + 1) else z_fl S s k
def z_fwd (S : z_S) (i : Nat) : Nat → Nat → Nat | 0, _ => 0 | d + 1, b => if z_fv S (12 * i + b) (S 1 b) (S 2 (12 * i + b)) 0 < S 1 b then z_fv S (12 * i + b) (S 1 b) (S 2 (12 * i + b)) 0 else S 1 b + z_fwd S i d (b + 1)
theorem z_fv_le {S : z_S} (W : z_W S) {s len : Nat} (hs : s < 60) (hf : z_fl S s (S 2 s) ≤ len) : ∀ d k, k + d = S 2 s → z_fv S s len d k ≤ len
  | 0, _, _ => Nat.le_refl _
  | d + 1, k, h => by
    show (if S 4 (8 * s + k) = 0 then z_fv S s len d (k + 1) else z_fl S s k) ≤ len
    have := z_fv_le W hs hf d (k + 1) (by omega)
    have h2 := z_fl_le (S := S) s (show k ≤ S 2 s by omega)
    split <;> omega
theorem z_bk_le {S : z_S} (W : z_W S) {i : Nat} : ∀ b, b ≤ S 0 0 → z_bk S i b ≤ 32 * b
  | 0, _ => Nat.zero_le _
  | b + 1, h => by
    have := z_bk_le W (i := i) b (by omega)
    have hl := W.2.1 b (by omega)
    show (S 1 b - z_lsd S (12 * i + b) (S 2 (12 * i + b))) + (if z_lsd S (12 * i + b) (S 2 (12 * i + b)) = 0 then z_bk S i b else 0) ≤ _
    split <;> omega
theorem z_fwd_le {S : z_S} (W : z_W S) {i : Nat} : ∀ d b, b + d ≤ S 0 0 → z_fwd S i d b ≤ 32 * d
  | 0, _, _ => Nat.zero_le _
  | d + 1, b, h => by
    have := z_fwd_le W (i := i) d (b + 1) (by omega)
    have hl := W.2.1 b (by omega)
    show (if z_fv S (12 * i + b) (S 1 b) (S 2 (12 * i + b)) 0 < S 1 b then z_fv S (12 * i + b) (S 1 b) (S 2 (12 * i + b)) 0 else S 1 b + z_fwd S i d (b + 1)) ≤ _
    split <;> omega
theorem x_silenceAtEnd {f : sx_F} {S : z_S} (Z : z_X f S) (W : z_W S) {i b : Nat} (hi : i < 5) (hb : b < S 0 0) {Q : Int32 → Prop} (h : Q (nI (S 1 b - z_lsd S (12 * i + b) (S 2 (12 * i + b))))) : P_X4_silenceAtEnd f (nI i) (nI b) Q := by
  have hn := W.1
  intro B15 B52 h15 h52
  refine x_slotOf ?_
  have hs : 12 * i + b < 60 := by omega
  have hfl := W.2.2.2.2.2.1 i b hi hb
  generalize 12 * i + b = s at hs h hfl
  have hc := W.2.2.1 s hs
  refine z_up (B := fun k => B15 (nI s) (nI (z_fl S s k)) (nI (z_lsd S s k)) (nI k)) (S 2 s) (fun k hk ih => h15 _ _ _ _ ⟨vp_in_nI (by omega) (by omega), ?_⟩)
  rw [nI_clamp (by omega), Z.2.2.1 s hs]
  refine pk_le (S 2 s) k (fun c => ⟨vp_in_nI (by omega) (by omega), ?_⟩) (fun c => x_lengthAt Z hs (by omega) (nm_e (x_pitchAt Z hs (by omega) ?_)))
  · have ek : k = S 2 s := by omega
    have hl := z_lsd_le (S := S) (s := s) (S 2 s)
    rw [nI_clamp (by omega), Z.2.1 b (by omega), ek, pk_sub (by omega)]
    exact h
  · have hp60 := (W.2.2.2.1 (8 * s + k) (by omega)).2
    have i2 : B15 (nI s) (nI (z_fl S s k + S 3 (8 * s + k))) (nI (if S 4 (8 * s + k) = 0 then z_lsd S s k else z_fl S s (k + 1))) (nI (k + 1)) := ih c
    rw [nI_add]
    refine pk_le (S 4 (8 * s + k)) 0 (fun z => h52 _ _ _ _ (nm_e ?_)) (fun z => h52 _ _ _ _ (nm_e ?_))
    · rw [if_pos (by omega)] at i2
      rw [nI_1]; exact i2
    · rw [if_neg (by omega)] at i2
      rw [nI_1]; exact i2
theorem x_silenceAtBeginning {f : sx_F} {S : z_S} (Z : z_X f S) (W : z_W S) {i b : Nat} (hi : i < 5) (hb : b < S 0 0) {Q : Int32 → Prop} (h : Q (nI (z_fv S (12 * i + b) (S 1 b) (S 2 (12 * i + b)) 0))) : P_X4_silenceAtBeginning f (nI i) (nI b) Q := by
  have hn := W.1
  intro B12 h12
  refine x_slotOf ?_
  have hs : 12 * i + b < 60 := by omega
  generalize 12 * i + b = s at hs h
  have hc := W.2.2.1 s hs
  have key : ∀ d k, k + d = S 2 s → Q (nI (z_fv S s (S 1 b) d k)) → B12 (nI s) (nI (z_fl S s k)) (nI k) := by
    intro d
    induction d with
    | zero =>
      intro k hk hq
      refine h12 _ _ _ ⟨vp_in_nI (by omega) (by omega), ?_⟩
      rw [nI_clamp (n := s) (by omega), Z.2.2.1 s hs, nI_clamp (n := b) (by omega), Z.2.1 b (by omega)]
      exact pk_le (S 2 s) k (fun c => ⟨vp_in_nI (by omega) (by omega), hq⟩) (fun c => absurd c (by omega))
    | succ d ih =>
      intro k hk hq
      refine h12 _ _ _ ⟨vp_in_nI (by omega) (by omega), ?_⟩
      rw [nI_clamp (n := s) (by omega), Z.2.2.1 s hs]
      have hp60 := (W.2.2.2.1 (8 * s + k) (by omega)).2
      have hq : Q (nI (if S 4 (8 * s + k) = 0 then z_fv S s (S 1 b) d (k + 1) else z_fl S s k)) := hq
      refine pk_le (S 2 s) k (fun c => absurd c (by omega)) (fun c => x_pitchAt Z hs (by omega) (pk_le (S 4 (8 * s + k)) 0 (fun z => x_lengthAt Z hs (by omega) (nm_e (nm_e ?_))) (fun z => ?_)))
      · rw [if_pos (by omega)] at hq
        rw [nI_add, nI_1]
        exact ih (k + 1) (by omega) hq
      · rw [if_neg (by omega)] at hq
        exact hq
  exact key (S 2 s) 0 (by omega) h
theorem x_silenceAround {f : sx_F} {S : z_S} (Z : z_X f S) (W : z_W S) {i b : Nat} (hi : i < 5) (hb : b < S 0 0) {Q : Int32 → Prop} (h : Q (nI (z_bk S i b + z_fwd S i (S 0 0 - b) b))) : P_X4_silenceAround f (nI i) (nI b) Q := by
  have hn := W.1
  intro B7 B47 B50 h7 h47 h50
  have fw : ∀ d c acc, c + d = S 0 0 → Q (nI (acc + z_fwd S i d c)) → B50 (nI acc) (nI c) := by
    intro d
    induction d with
    | zero =>
      intro c acc hc hq
      refine h50 _ _ ?_
      rw [Z.1]
      exact pk_le (S 0 0) c (fun _ => hq) (fun z => absurd z (by omega))
    | succ d ih =>
      intro c acc hc hq
      refine h50 _ _ ?_
      rw [Z.1]
      refine pk_le (S 0 0) c (fun z => absurd z (by omega)) (fun z => x_silenceAtBeginning Z W hi z (nm_e ⟨vp_in_nI (by omega) (by omega), ?_⟩))
      have hl := W.2.1 c z
      have hle := z_fv_le W (s := 12 * i + c) (by omega) (W.2.2.2.2.2.1 i c hi z) (S 2 (12 * i + c)) 0 (by omega)
      rw [nI_clamp (by omega), Z.2.1 c (by omega), nI_add]
      have hq : Q (nI (acc + (if z_fv S (12 * i + c) (S 1 c) (S 2 (12 * i + c)) 0 < S 1 c then z_fv S (12 * i + c) (S 1 c) (S 2 (12 * i + c)) 0 else S 1 c + z_fwd S i d (c + 1)))) := hq
      refine pk_le (S 1 c) (z_fv S (12 * i + c) (S 1 c) (S 2 (12 * i + c)) 0) (fun y => nm_e ?_) (fun y => ?_)
      · rw [if_neg (by omega)] at hq
        rw [nI_1]
        refine ih (c + 1) _ (by omega) ?_
        rw [show acc + z_fv S (12 * i + c) (S 1 c) (S 2 (12 * i + c)) 0 + z_fwd S i d (c + 1) = acc + (S 1 c + z_fwd S i d (c + 1)) by omega]
        exact hq
      · rw [if_pos y] at hq; exact hq
  have bw : ∀ c acc v, c ≤ b → ((c = 0 ∧ v < 0) ∨ (0 < c ∧ v = nI (c - 1))) → B47 (nI (acc + z_bk S i c)) → B7 (nI acc) v := by
    intro c
    induction c with
    | zero =>
      intro acc v hc hv hq
      rcases hv with ⟨-, hv⟩ | ⟨hv, -⟩
      · exact h7 _ _ ⟨fun _ => hq, fun z => absurd hv z⟩
      · omega
    | succ c ih =>
      intro acc v hc hv hq
      rcases hv with ⟨hv, -⟩ | ⟨-, hv⟩
      · omega
      rw [hv, show c + 1 - 1 = c by omega]
      have hl := W.2.1 c (by omega)
      have hls := z_lsd_le (S := S) (s := 12 * i + c) (S 2 (12 * i + c))
      have hfl := W.2.2.2.2.2.1 i c hi (by omega)
      refine h7 _ _ ⟨fun z => absurd z (nI_pos (by omega)), fun _ => x_silenceAtEnd Z W hi (by omega) (nm_e ⟨vp_in_nI (by omega) (by omega), ?_⟩)⟩
      rw [nI_clamp (by omega), Z.2.1 c (by omega), nI_add]
      have hq : B47 (nI (acc + ((S 1 c - z_lsd S (12 * i + c) (S 2 (12 * i + c))) + (if z_lsd S (12 * i + c) (S 2 (12 * i + c)) = 0 then z_bk S i c else 0)))) := hq
      refine pk_le (S 1 c) (S 1 c - z_lsd S (12 * i + c) (S 2 (12 * i + c))) (fun y => nm_e (ih _ _ (by omega) ?_ ?_)) (fun y => ?_)
      · by_cases e : c = 0
        · exact Or.inl ⟨e, by rw [e]; decide⟩
        · refine Or.inr ⟨by omega, ?_⟩
          rw [show c = (c - 1) + 1 by omega, pk_m1]; rfl
      · rw [if_pos (by omega)] at hq
        rw [Nat.add_assoc]; exact hq
      · rw [if_neg (by omega)] at hq; exact hq
  refine nm_e (bw b 0 _ (Nat.le_refl _) ?_ (h47 _ (fw (S 0 0 - b) b _ (by omega) (by rw [Nat.zero_add]; exact h))))
  by_cases e : b = 0
  · exact Or.inl ⟨e, by rw [e]; decide⟩
  · refine Or.inr ⟨by omega, pk_sub (a := b) (b := 1) (by omega)⟩
theorem m_silentTo {g : sx_F} {S : z_S} (M : z_M g S) (W : z_W S) {i b : Nat} (hi : i < 5) (hb : b < S 0 0) {Q : Int32 → Prop} (h : Q (nI (z_bk S i (b + 1)))) : P_X7_silentTo g (nI i) (nI b) Q := by
  have hn := W.1
  intro B5 B24 B67 h5 h24 h67
  have bw : ∀ c acc v, c ≤ b + 1 → ((c = 0 ∧ v < 0) ∨ (0 < c ∧ v = nI (c - 1))) → Q (nI (acc + z_bk S i c)) → B5 (nI acc) v := by
    intro c
    induction c with
    | zero =>
      intro acc v hc hv hq
      rcases hv with ⟨-, hv⟩ | ⟨hv, -⟩
      · exact h5 _ _ ⟨fun _ => hq, fun z => absurd hv z⟩
      · omega
    | succ c ih =>
      intro acc v hc hv hq
      rcases hv with ⟨hv, -⟩ | ⟨-, hv⟩
      · omega
      rw [hv, show c + 1 - 1 = c by omega]
      have hl := W.2.1 c (by omega)
      have hls := z_lsd_le (S := S) (s := 12 * i + c) (S 2 (12 * i + c))
      have hfl := W.2.2.2.2.2.1 i c hi (by omega)
      refine h5 _ _ ⟨fun z => absurd z (nI_pos (by omega)), fun _ => m_cell ?_⟩
      have hq : Q (nI (acc + ((S 1 c - z_lsd S (12 * i + c) (S 2 (12 * i + c))) + (if z_lsd S (12 * i + c) (S 2 (12 * i + c)) = 0 then z_bk S i c else 0)))) := hq
      have hs : 12 * i + c < 60 := by omega
      generalize 12 * i + c = s at hs hls hfl hq
      have hcs := W.2.2.1 s hs
      refine z_up (B := fun k => B24 (nI acc) (nI c) (nI s) (nI (z_lsd S s k)) (nI k)) (S 2 s) (fun k hk ihk => h24 _ _ _ _ _ ⟨vp_in_nI (by omega) (by omega), ?_⟩)
      rw [nI_clamp (n := s) (by omega), M.2.2.1 s hs]
      refine pk_le (S 2 s) k (fun z => ⟨vp_in_nI (by omega) (by omega), nm_e ?_⟩) (fun z => ?_)
      · have ek : k = S 2 s := by omega
        rw [nI_clamp (by omega), M.2.1 c (by omega), ek, pk_sub (by omega), nI_add]
        refine pk_le (z_lsd S s (S 2 s)) 0 (fun y => nm_e (ih _ _ (by omega) ?_ ?_)) (fun y => ?_)
        · by_cases e : c = 0
          · exact Or.inl ⟨e, by rw [e]; decide⟩
          · refine Or.inr ⟨by omega, ?_⟩
            rw [show c = (c - 1) + 1 by omega, pk_m1]; rfl
        · rw [if_pos (by omega)] at hq
          rw [Nat.add_assoc]; exact hq
        · rw [if_neg (by omega)] at hq; exact hq
      · have hp60 := (W.2.2.2.1 (8 * s + k) (by omega)).2
        have i2 : B24 (nI acc) (nI c) (nI s) (nI (if S 4 (8 * s + k) = 0 then z_lsd S s k else z_fl S s (k + 1))) (nI (k + 1)) := ihk z
        rw [z_at', nI_clamp (by omega), M.2.2.2.2 _ (by omega)]
        refine ⟨vp_in_nI (by omega) (by omega), pk_le (S 4 (8 * s + k)) 0 (fun y => h67 _ _ _ _ _ (nm_e ?_)) (fun y => ?_)⟩
        · rw [if_pos (by omega)] at i2
          rw [nI_1]; exact i2
        · rw [nI_1]
          refine m_filled M hs (by omega) (h67 _ _ _ _ _ (nm_e ?_))
          rw [if_neg (by omega)] at i2
          rw [nI_1]; exact i2
  exact bw (b + 1) 0 _ (Nat.le_refl _) (Or.inr ⟨by omega, rfl⟩) (by rw [Nat.zero_add]; exact h)
theorem m_silentFrom {g : sx_F} {S : z_S} (M : z_M g S) (W : z_W S) {i b : Nat} (hi : i < 5) (hb : b ≤ S 0 0) {Q : Int32 → Prop} (h : Q (nI (z_fwd S i (S 0 0 - b) b))) : P_X7_silentFrom g (nI i) (nI b) Q := by
  have hn := W.1
  intro B5 B25 h5 h25
  have fw : ∀ d c acc, c + d = S 0 0 → Q (nI (acc + z_fwd S i d c)) → B5 (nI acc) (nI c) := by
    intro d
    induction d with
    | zero =>
      intro c acc hc hq
      refine h5 _ _ ?_
      rw [M.1]
      exact pk_le (S 0 0) c (fun _ => hq) (fun z => absurd z (by omega))
    | succ d ih =>
      intro c acc hc hq
      refine h5 _ _ ?_
      rw [M.1]
      refine pk_le (S 0 0) c (fun z => absurd z (by omega)) (fun z => m_cell ?_)
      have hl := W.2.1 c z
      have hq : Q (nI (acc + (if z_fv S (12 * i + c) (S 1 c) (S 2 (12 * i + c)) 0 < S 1 c then z_fv S (12 * i + c) (S 1 c) (S 2 (12 * i + c)) 0 else S 1 c + z_fwd S i d (c + 1)))) := hq
      have hs : 12 * i + c < 60 := by omega
      have hfl := W.2.2.2.2.2.1 i c hi z
      generalize 12 * i + c = s at hs hfl hq
      have hcs := W.2.2.1 s hs
      have inner : ∀ e k, k + e = S 2 s → Q (nI (acc + (if z_fv S s (S 1 c) e k < S 1 c then z_fv S s (S 1 c) e k else S 1 c + z_fwd S i d (c + 1)))) → B25 (nI acc) (nI c) (nI s) (nI k) := by
        intro e
        induction e with
        | zero =>
          intro k hk hq
          refine h25 _ _ _ _ ⟨vp_in_nI (by omega) (by omega), ?_⟩
          rw [nI_clamp (n := s) (by omega), M.2.2.1 s hs]
          refine pk_le (S 2 s) k (fun _ => ⟨vp_in_nI (by omega) (by omega), nm_e (nm_e ?_)⟩) (fun y => absurd y (by omega))
          rw [show z_fv S s (S 1 c) 0 k = S 1 c from rfl, if_neg (Nat.lt_irrefl _)] at hq
          rw [nI_clamp (by omega), M.2.1 c (by omega), nI_add, nI_1]
          refine ih (c + 1) _ (by omega) ?_
          rw [Nat.add_assoc]; exact hq
        | succ e ihe =>
          intro k hk hq
          refine h25 _ _ _ _ ⟨vp_in_nI (by omega) (by omega), ?_⟩
          rw [nI_clamp (n := s) (by omega), M.2.2.1 s hs]
          have hp60 := (W.2.2.2.1 (8 * s + k) (by omega)).2
          have ev : z_fv S s (S 1 c) (e + 1) k = if S 4 (8 * s + k) = 0 then z_fv S s (S 1 c) e (k + 1) else z_fl S s k := rfl
          rw [z_at', nI_clamp (n := 8 * s + k) (by omega), M.2.2.2.2 _ (by omega)]
          refine pk_le (S 2 s) k (fun y => absurd y (by omega)) (fun y => ⟨vp_in_nI (by omega) (by omega), pk_le (S 4 (8 * s + k)) 0 (fun w => nm_e ?_) (fun w => m_filled M hs (by omega) ?_)⟩)
          · rw [nI_1]
            rw [if_pos (by omega)] at ev
            rw [ev] at hq
            exact ihe (k + 1) (by omega) hq
          · rw [if_neg (by omega)] at ev
            have lt := z_fl_lt W hs (show k < S 2 s by omega) (Nat.le_refl _)
            rw [ev, if_pos (by omega)] at hq
            rw [nI_add]; exact hq
      exact inner (S 2 s) 0 (by omega) hq
  have h' : Q (nI (0 + z_fwd S i (S 0 0 - b) b)) := by rw [Nat.zero_add]; exact h
  exact fw (S 0 0 - b) b 0 (by omega) h'
end
section
theorem z_ss (a b c : Int32) : a - b - c = a - (b + c) := by
  apply Int32.toBitVec_inj.mp
  simp only [Int32.toBitVec_sub, Int32.toBitVec_add]
  bv_omega
def z_tc (S : z_S) (bk b : Nat) : Nat := if bk = 5 then 0 else 100 * (16 - (z_bk S bk b + z_fwd S bk (S 0 0 - b) b))
theorem z_tc_le {S : z_S} {bk b : Nat} : z_tc S bk b ≤ 1600 := by
  unfold z_tc
  split <;> omega
theorem m_turnCost {g : sx_F} {S : z_S} (M : z_M g S) (W : z_W S) {bk b : Nat} (hbk : bk ≤ 5) (hb : b < S 0 0) {Q : Int32 → Prop} (h : Q (nI (z_tc S bk (b + 1)))) : P_X7_turnCost g (nI bk) (nI b) Q := by
  have hn := W.1
  intro B27 h27
  unfold z_tc at h
  refine pk_eq bk 5 (fun c => h27 _ ⟨fun _ => ?_, fun z => absurd (by decide) z⟩) (fun c => m_silentTo M W (by omega) hb ?_)
  · rw [if_pos c] at h; exact h
  · rw [if_neg c] at h
    rw [nI_1]
    refine m_silentFrom M W (by omega) (by omega) (h27 _ ?_)
    have h1 := z_bk_le W (i := bk) (b + 1) (by omega)
    have h2 := z_fwd_le W (i := bk) (S 0 0 - (b + 1)) (b + 1) (by omega)
    rw [z_ss, nI_add]
    have hle : z_bk S bk (b + 1) + z_fwd S bk (S 0 0 - (b + 1)) (b + 1) ≤ 800 := by omega
    generalize z_bk S bk (b + 1) + z_fwd S bk (S 0 0 - (b + 1)) (b + 1) = m at h hle ⊢
    by_cases z : m ≤ 16
    · rw [show (16 : Int32) - nI m = nI (16 - m) from pk_sub (a := 16) z]
      refine pk_le (16 - m) 0 (fun y => ?_) (fun y => ?_)
      · rw [show 16 - m = 0 by omega] at h; exact h
      · rw [show (100 : Int32) * nI (16 - m) = nI (100 * (16 - m)) from pk_mul 100 _]; exact h
    · have neg : (16 : Int32) - nI m < 0 := pk_sneg (a := 16) (b := m) (by omega) (by omega)
      refine ⟨fun _ => ?_, fun y => absurd (Int32.le_of_lt neg) y⟩
      rw [show 16 - m = 0 by omega] at h; exact h
theorem x_priceTurns {f : sx_F} {S : z_S} {bk : Nat} {Q : sx_F → Prop} (Z : z_X f S) (W : z_W S) (hbk : bk ≤ 5) (h8 : f 8 2 = nI bk) (G : z_G f S bk (S 0 0)) (h : ∀ f' : sx_F, (∀ k, k ≠ 20 → f' k = f k) → (∀ b, b < S 0 0 → z_new S bk b = true → f' 20 (z_it S bk b) = nI (z_tc S bk b)) → f' 20 (z_it S bk (S 0 0)) = 0 → Q f') : P_X3_priceTurns f Q := by
  have hn := W.1
  have hitn : z_it S bk (S 0 0) ≤ S 0 0 := z_cnt_le _
  have hlt : ∀ b, b < S 0 0 → z_new S bk b = true → z_it S bk b < z_it S bk (S 0 0) := fun b hb hb2 => z_cnt_lt hb hb2
  intro B22 h22
  refine x_fill (by omega) (fun f0 a1 a2 => ?_)
  rw [show f0 8 2 = nI bk by rw [a1 8 (by decide)]; exact h8]
  refine pk_eq bk 5 (fun c => h f0 a1 (fun b hb hb2 => ?_) ?_) (fun c => ?_)
  · have := hlt b hb hb2
    rw [a2 _ (by omega)]
    unfold z_tc
    rw [if_pos c]; rfl
  · rw [a2 _ (by omega)]
  · have key : ∀ f' : sx_F, (∀ k, k ≠ 20 → f' k = f k) → (∀ b, b < S 0 0 → z_new S bk b = true → z_it S bk b < 0 → f' 20 (z_it S bk b) = nI (z_tc S bk b)) → (∀ i, 0 ≤ i → i < 13 → f' 20 i = 0) → B22 f' (nI 0) := by
      refine z_up (B := fun j => ∀ f' : sx_F, (∀ k, k ≠ 20 → f' k = f k) → (∀ b, b < S 0 0 → z_new S bk b = true → z_it S bk b < j → f' 20 (z_it S bk b) = nI (z_tc S bk b)) → (∀ i, j ≤ i → i < 13 → f' 20 i = 0) → B22 f' (nI j)) (z_it S bk (S 0 0)) (fun j hj ih => ?_)
      intro f' f1 f2 f3
      have Z' : z_X f' S := z_Xc Z (f1 1 (by decide)) (f1 2 (by decide)) (f1 5 (by decide)) (f1 6 (by decide)) (f1 7 (by decide))
      refine h22 _ _ ?_
      rw [f1 8 (by decide), G.1]
      refine pk_le (z_it S bk (S 0 0)) j (fun z => ?_) (fun z => ?_)
      · exact h f' f1 (fun b hb hb2 => f2 b hb hb2 (by have := hlt b hb hb2; omega)) (f3 _ (by omega) (by omega))
      · obtain ⟨x, hx, hnx, hjx⟩ := z_cnt_ex (p := z_new S bk) (S 0 0) j z
        have hjx : z_it S bk x = j := hjx
        have h14 := (G.2.1 x hx hnx).1
        rw [hjx] at h14
        rw [nI_clamp (n := j) (by omega), f1 14 (by decide), h14, h8]
        refine ⟨vp_in_nI (by omega) (by omega), x_silenceAround Z' W (by omega) hx ⟨vp_in_nI (by omega) (by omega), nm_e (nm_e ?_)⟩⟩
        rw [nI_1]
        have h1 := z_bk_le W (i := bk) x (by omega)
        have h2 := z_fwd_le W (i := bk) (S 0 0 - x) x (by omega)
        have etc : (100 : Int32) * (if 0 < (16 : Int32) - nI (z_bk S bk x + z_fwd S bk (S 0 0 - x) x) then (16 : Int32) - nI (z_bk S bk x + z_fwd S bk (S 0 0 - x) x) else 0) = nI (z_tc S bk x) := by
          unfold z_tc
          rw [if_neg c]
          have hle : z_bk S bk x + z_fwd S bk (S 0 0 - x) x ≤ 800 := by omega
          generalize z_bk S bk x + z_fwd S bk (S 0 0 - x) x = m at hle
          by_cases y : m < 16
          · rw [show (16 : Int32) - nI m = nI (16 - m) from pk_sub (a := 16) (by omega), if_pos (show (0 : Int32) < nI (16 - m) from nI_lt (a := 0) (b := 16 - m) (by omega) (by omega))]
            exact pk_mul 100 _
          · have nn : ¬ (0 : Int32) < (16 : Int32) - nI m := by
              by_cases e : m = 16
              · rw [e]; decide
              · have neg : (16 : Int32) - nI m < 0 := pk_sneg (a := 16) (b := m) (by omega) (by omega)
                exact fun w => absurd (Int32.lt_trans w neg) (by decide)
            rw [if_neg nn, show 16 - m = 0 by omega]
            rfl
        rw [etc]
        refine ih z _ (fun k hk => by rw [sx_u_n hk]; exact f1 k hk) (fun b hb hb2 hb3 => ?_) (fun i hi hi2 => ?_)
        · rw [sx_u_s]
          by_cases e : z_it S bk b = j
          · have eb : b = x := by
              rcases Nat.lt_trichotomy b x with y | y | y
              · have := z_cnt_lt y hb2
                have e2 : z_it S bk b < z_it S bk x := this
                omega
              · exact y
              · have := z_cnt_lt y hnx
                have e2 : z_it S bk x < z_it S bk b := this
                omega
            rw [e, pk_us, eb]
          · rw [pk_un e]; exact f2 b hb hb2 (by omega)
        · rw [sx_u_s, pk_un (by omega)]
          exact f3 i (by omega) hi2
    exact key f0 a1 (fun b _ _ hb => absurd hb (by omega)) (fun i _ hi => a2 i hi)
/-! THE ITEMS BY THEIR NUMBERS -/
def z_nth (p : Nat → Bool) (j : Nat) : Nat → Nat | 0 => 0 | e + 1 => if p e = true ∧ z_cnt p e = j then e else z_nth p j e
theorem z_nth_eq {p : Nat → Bool} {x : Nat} (hp : p x = true) : ∀ e, x < e → z_nth p (z_cnt p x) e = x
  | 0, h => absurd h (Nat.not_lt_zero _)
  | e + 1, h => by
    show (if p e = true ∧ z_cnt p e = z_cnt p x then e else z_nth p (z_cnt p x) e) = x
    by_cases c : e = x
    · rw [c, if_pos ⟨hp, rfl⟩]
    · have := z_cnt_lt (p := p) (show x < e by omega) hp
      rw [if_neg (fun z => by omega)]
      exact z_nth_eq hp e (by omega)
/-- the first bar of an item -/
def z_xb (S : z_S) (bk j : Nat) : Nat := z_nth (z_new S bk) j (S 0 0)
def z_IW (S : z_S) (bk j : Nat) : Nat := z_Wb S (z_drw S bk (z_xb S bk j)) (z_xb S bk j)
def z_IL (S : z_S) (bk j : Nat) : Nat := z_Lb S (z_drw S bk (z_xb S bk j)) (z_xb S bk j)
def z_IT (S : z_S) (bk j : Nat) : Nat := if j < z_it S bk (S 0 0) then z_tc S bk (z_xb S bk j) else 0
theorem z_xb_eq {S : z_S} {bk x : Nat} (hx : x < S 0 0) (hn : z_new S bk x = true) : z_xb S bk (z_it S bk x) = x := z_nth_eq hn _ hx
theorem z_wsum_it {S : z_S} {bk : Nat} : ∀ b, b ≤ S 0 0 → z_wsum S bk b = z_sm (z_IW S bk) (z_it S bk b) ∧ z_lsum S bk b = z_sm (z_IL S bk) (z_it S bk b)
  | 0, _ => ⟨rfl, rfl⟩
  | b + 1, h => by
    obtain ⟨h1, h2⟩ := z_wsum_it (S := S) (bk := bk) b (by omega)
    have e1 : z_wsum S bk (b + 1) = z_wsum S bk b + (if z_new S bk b then z_Wb S (z_drw S bk b) b else 0) := rfl
    have e2 : z_lsum S bk (b + 1) = z_lsum S bk b + (if z_new S bk b then z_Lb S (z_drw S bk b) b else 0) := rfl
    rw [e1, e2, z_it_s, h1, h2]
    cases hn : z_new S bk b
    · exact ⟨rfl, rfl⟩
    · have ex := z_xb_eq (show b < S 0 0 by omega) hn
      refine ⟨?_, ?_⟩
      · show _ = z_sm (z_IW S bk) (z_it S bk b) + z_IW S bk (z_it S bk b)
        unfold z_IW
        rw [ex]; rfl
      · show _ = z_sm (z_IL S bk) (z_it S bk b) + z_IL S bk (z_it S bk b)
        unfold z_IL
        rw [ex]; rfl
/-- the class's sums of items -/
theorem z_G.sums {f : sx_F} {S : z_S} {bk j : Nat} (G : z_G f S bk (S 0 0)) (hj : j ≤ z_it S bk (S 0 0)) : f 17 j = nI (z_sm (z_IW S bk) j) ∧ f 18 j = nI (z_sm (z_IL S bk) j) := by
  by_cases e : j = z_it S bk (S 0 0)
  · have h := G.2.2.2.1 (S 0 0) (Nat.le_refl _)
    obtain ⟨h1, h2⟩ := z_wsum_it (S := S) (bk := bk) (S 0 0) (Nat.le_refl _)
    rw [e, ← h1, ← h2]; exact h
  · obtain ⟨x, hx, hn, hjx⟩ := z_cnt_ex (p := z_new S bk) (S 0 0) j (by show j < z_it S bk (S 0 0); omega)
    have hjx : z_it S bk x = j := hjx
    have h := G.2.2.2.1 x (by omega)
    obtain ⟨h1, h2⟩ := z_wsum_it (S := S) (bk := bk) x (by omega)
    rw [hjx] at h h1 h2
    rw [← h1, ← h2]; exact h
theorem z_sn_b {S : z_S} {dr b p : Nat} : z_le S dr b p ≤ 9 := by
  have := z_sn_5 (S := S) (dr := dr) (b := b) (p := p)
  unfold z_le
  omega
theorem z_wd_b {S : z_S} {dr b p : Nat} : z_wd S dr b p ≤ 24 := by
  have h1 := z_sn_b (S := S) (dr := dr) (b := b) (p := p)
  have h2 := z_hv_le 6 (z_nx (z_pl S dr b) (S 1 b - (p + 1)) (p + 1) - p)
  unfold z_wd
  split <;> omega
/-- an item's width and least: bounds enough for every cost -/
theorem z_IW_b {S : z_S} {bk j : Nat} (W : z_W S) (hbk : bk ≤ 5) (hj : j < z_it S bk (S 0 0)) : z_IW S bk j ≤ 768 ∧ 1 ≤ z_IL S bk j ∧ z_IL S bk j ≤ 288 := by
  obtain ⟨x, hx, hn, hjx⟩ := z_cnt_ex (p := z_new S bk) (S 0 0) j hj
  have hjx : z_it S bk x = j := hjx
  have hl := W.2.1 x hx
  have ex := z_xb_eq hx hn
  rw [hjx] at ex
  unfold z_IW z_IL z_Wb z_Lb
  rw [ex]
  by_cases e : z_drw S bk x = 6
  · rw [if_pos e, if_pos e]; omega
  · rw [if_neg e, if_neg e]
    have w1 := z_sm_le (w := fun p => if z_pl S (z_drw S bk x) x p then z_wd S (z_drw S bk x) x p else 0) (c := 24) (fun p => by
      have := z_wd_b (S := S) (dr := z_drw S bk x) (b := x) (p := p)
      show (if z_pl S (z_drw S bk x) x p then z_wd S (z_drw S bk x) x p else 0) ≤ 24
      split <;> omega) (S 1 x)
    have l1 := z_sm_le (w := fun p => if z_pl S (z_drw S bk x) x p then z_le S (z_drw S bk x) x p else 0) (c := 9) (fun p => by
      have := z_sn_b (S := S) (dr := z_drw S bk x) (b := x) (p := p)
      show (if z_pl S (z_drw S bk x) x p then z_le S (z_drw S bk x) x p else 0) ≤ 9
      split <;> omega) (S 1 x)
    have hd := z_drw_le (S := S) (bk := bk) (b := x) hbk
    have l0 : 0 < z_ls S (z_drw S bk x) x (S 1 x) := by
      have m := z_sm_mono (w := fun p => if z_pl S (z_drw S bk x) x p then z_le S (z_drw S bk x) x p else 0) (show 1 ≤ S 1 x from hl.1)
      have e1 : z_sm (fun p => if z_pl S (z_drw S bk x) x p then z_le S (z_drw S bk x) x p else 0) 1 = 0 + (if z_pl S (z_drw S bk x) x 0 then z_le S (z_drw S bk x) x 0 else 0) := rfl
      rw [z_pl0 W (by omega) hx, if_pos rfl] at e1
      have e2 : 4 ≤ z_le S (z_drw S bk x) x 0 := Nat.le_add_right _ _
      have m' : z_sm (fun p => if z_pl S (z_drw S bk x) x p then z_le S (z_drw S bk x) x p else 0) 1 ≤ z_ls S (z_drw S bk x) x (S 1 x) := m
      omega
    have w1' : z_ws S (z_drw S bk x) x (S 1 x) ≤ 24 * S 1 x := w1
    have l1' : z_ls S (z_drw S bk x) x (S 1 x) ≤ 9 * S 1 x := l1
    omega
end
section
/-! THE BEST WAY TO BREAK. c, n: what a first line of so many items costs in all, and how many lines it makes; ok: it may be a line -/
def z_sc (c n : Nat → Nat) (ok : Nat → Bool) : Nat → Nat × Nat × Nat
  | 0 => (0, 0, 0)
  | k + 1 => if ok (k + 1) = true ∧ ((z_sc c n ok k).2.2 = 0 ∨ c (k + 1) < (z_sc c n ok k).1 ∨ (c (k + 1) = (z_sc c n ok k).1 ∧ n (k + 1) < (z_sc c n ok k).2.1)) then (c (k + 1), n (k + 1), k + 1) else z_sc c n ok k
theorem z_sc_c {c c' n n' : Nat → Nat} {ok : Nat → Bool} : ∀ k, (∀ i, 1 ≤ i → i ≤ k → c i = c' i ∧ n i = n' i) → z_sc c n ok k = z_sc c' n' ok k
  | 0, _ => rfl
  | k + 1, h => by
    have e := z_sc_c (ok := ok) k (fun i h1 h2 => h i h1 (by omega))
    obtain ⟨h1, h2⟩ := h (k + 1) (by omega) (Nat.le_refl _)
    show (if _ then _ else _) = (if _ then _ else _)
    rw [e, h1, h2]
/-- one item is always a line: from one on there is a way; it is one of those tried, and none that may be is cheaper -/
theorem z_sc_way {c n : Nat → Nat} {ok : Nat → Bool} (h1 : ok 1 = true) : ∀ k, 1 ≤ k → 1 ≤ (z_sc c n ok k).2.2 ∧ (z_sc c n ok k).2.2 ≤ k ∧ ok (z_sc c n ok k).2.2 = true ∧ (z_sc c n ok k).1 = c (z_sc c n ok k).2.2 ∧ (z_sc c n ok k).2.1 = n (z_sc c n ok k).2.2 ∧ ∀ i, 1 ≤ i → i ≤ k → ok i = true → (z_sc c n ok k).1 ≤ c i
  | 0, h => absurd h (by omega)
  | k + 1, _ => by
    have e : z_sc c n ok (k + 1) = if ok (k + 1) = true ∧ ((z_sc c n ok k).2.2 = 0 ∨ c (k + 1) < (z_sc c n ok k).1 ∨ (c (k + 1) = (z_sc c n ok k).1 ∧ n (k + 1) < (z_sc c n ok k).2.1)) then (c (k + 1), n (k + 1), k + 1) else z_sc c n ok k := rfl
    by_cases k0 : k = 0
    · subst k0
      rw [e, if_pos ⟨h1, Or.inl rfl⟩]
      exact ⟨Nat.le_refl _, Nat.le_refl _, h1, rfl, rfl, fun i a b _ => by rw [show i = 1 by omega]; exact Nat.le_refl _⟩
    · obtain ⟨p1, p2, p3, p4, p5, p6⟩ := z_sc_way (c := c) (n := n) h1 k (by omega)
      by_cases cnd : ok (k + 1) = true ∧ ((z_sc c n ok k).2.2 = 0 ∨ c (k + 1) < (z_sc c n ok k).1 ∨ (c (k + 1) = (z_sc c n ok k).1 ∧ n (k + 1) < (z_sc c n ok k).2.1))
      · rw [e, if_pos cnd]
        refine ⟨by omega, Nat.le_refl _, cnd.1, rfl, rfl, fun i a b o => ?_⟩
        by_cases ei : i = k + 1
        · rw [ei]; exact Nat.le_refl _
        · have := p6 i a (by omega) o
          rcases cnd.2 with z | z | z
          · omega
          · show c (k + 1) ≤ c i; omega
          · show c (k + 1) ≤ c i; omega
      · rw [e, if_neg cnd]
        refine ⟨p1, by omega, p3, p4, p5, fun i a b o => ?_⟩
        by_cases ei : i = k + 1
        · rw [ei] at o ⊢
          exact Nat.le_of_not_lt (fun z => cnd ⟨o, Or.inr (Or.inl z)⟩)
        · exact p6 i a (by omega) o
/-- nothing more is tried where no more may be a line -/
theorem z_sc_stop {c n : Nat → Nat} {ok : Nat → Bool} {k : Nat} : ∀ m, k ≤ m → (∀ i, k < i → i ≤ m → ok i = false) → z_sc c n ok m = z_sc c n ok k
  | 0, h, _ => by rw [show k = 0 by omega]
  | m + 1, h, h2 => by
    by_cases e : k = m + 1
    · rw [e]
    · show (if ok (m + 1) = true ∧ ((z_sc c n ok m).2.2 = 0 ∨ c (m + 1) < (z_sc c n ok m).1 ∨ (c (m + 1) = (z_sc c n ok m).1 ∧ n (m + 1) < (z_sc c n ok m).2.1)) then (c (m + 1), n (m + 1), m + 1) else z_sc c n ok m) = _
      rw [if_neg (fun z => by rw [h2 (m + 1) (by omega) (Nat.le_refl _)] at z; exact absurd z.1 (by decide))]
      exact z_sc_stop m (by omega) (fun i a b => h2 i a (by omega))
def z_wid (W : Nat → Nat) (a e : Nat) : Nat := 8 * (e - a) + (z_sm W e - z_sm W a)
def z_bad (w wd : Nat) (last : Bool) : Nat := if w < wd then 4 * ((wd - w) * (wd - w)) else if last then 0 else (w - wd) * (w - wd)
def z_nl (q l : Nat) : Nat := if l + 1 < q then l + 1 else 0
def z_lc (I : Nat) (W T : Nat → Nat) (w q a l k : Nat) : Nat := z_bad w (z_wid W a (a + k)) (decide (a + k = I)) + (if l + 1 < q then 0 else T (a + k))
def z_ok (L : Nat → Nat) (w a k : Nat) : Bool := decide (k = 1 ∨ z_wid L a (a + k) ≤ w)
/-- the table, from the end on: d items done -/
def z_dp (I : Nat) (W L T : Nat → Nat) (w q : Nat) : Nat → Nat → Nat → Nat × Nat × Nat
  | 0 => fun _ _ => (0, 0, 0)
  | d + 1 => fun a l => if a + (d + 1) = I then z_sc (fun k => z_lc I W T w q a l k + (z_dp I W L T w q d (a + k) (z_nl q l)).1) (fun k => 1 + (z_dp I W L T w q d (a + k) (z_nl q l)).2.1) (z_ok L w a) (d + 1) else z_dp I W L T w q d a l
theorem z_dp_up {I : Nat} {W L T : Nat → Nat} {w q a l : Nat} : ∀ m d, d ≤ m → I ≤ a + d → z_dp I W L T w q m a l = z_dp I W L T w q d a l
  | 0, d, h, _ => by rw [show d = 0 by omega]
  | m + 1, d, h, h2 => by
    by_cases e : d = m + 1
    · rw [e]
    · show (if a + (m + 1) = I then z_sc (fun k => z_lc I W T w q a l k + (z_dp I W L T w q m (a + k) (z_nl q l)).1) (fun k => 1 + (z_dp I W L T w q m (a + k) (z_nl q l)).2.1) (z_ok L w a) (m + 1) else z_dp I W L T w q m a l) = _
      rw [if_neg (by omega)]
      exact z_dp_up m d (by omega) h2
/-- the whole table -/
def z_Z (I : Nat) (W L T : Nat → Nat) (w q : Nat) : Nat → Nat → Nat × Nat × Nat := z_dp I W L T w q I
theorem z_Z_end {I : Nat} {W L T : Nat → Nat} {w q l : Nat} : z_Z I W L T w q I l = (0, 0, 0) := z_dp_up I 0 (Nat.zero_le _) (by omega)
theorem z_Z_eq {I : Nat} {W L T : Nat → Nat} {w q a l : Nat} (h : a < I) : z_Z I W L T w q a l = z_sc (fun k => z_lc I W T w q a l k + (z_Z I W L T w q (a + k) (z_nl q l)).1) (fun k => 1 + (z_Z I W L T w q (a + k) (z_nl q l)).2.1) (z_ok L w a) (I - a) := by
  have e1 : z_Z I W L T w q a l = z_dp I W L T w q (I - a) a l := z_dp_up I (I - a) (by omega) (by omega)
  rw [e1]
  obtain ⟨d, hd⟩ : ∃ d, I - a = d + 1 := ⟨I - a - 1, by omega⟩
  rw [hd]
  show (if a + (d + 1) = I then z_sc (fun k => z_lc I W T w q a l k + (z_dp I W L T w q d (a + k) (z_nl q l)).1) (fun k => 1 + (z_dp I W L T w q d (a + k) (z_nl q l)).2.1) (z_ok L w a) (d + 1) else z_dp I W L T w q d a l) = _
  rw [if_pos (by omega)]
  refine z_sc_c (d + 1) (fun i h1 h2 => ?_)
  have e2 : z_Z I W L T w q (a + i) (z_nl q l) = z_dp I W L T w q d (a + i) (z_nl q l) := z_dp_up I d (by omega) (by omega)
  rw [e2]
  exact ⟨rfl, rfl⟩
theorem z_wid_le {W : Nat → Nat} {c I a : Nat} (h : ∀ j, j < I → W j ≤ c) : ∀ e, a ≤ e → e ≤ I → z_wid W a e ≤ (8 + c) * (e - a)
  | 0, h1, _ => by
    rw [show a = 0 by omega]
    exact Nat.zero_le _
  | e + 1, h1, h2 => by
    by_cases c1 : a = e + 1
    · rw [c1]; unfold z_wid; omega
    · have i := z_wid_le (c := c) (I := I) (a := a) h e (by omega) (by omega)
      have m := z_sm_mono (w := W) (show a ≤ e by omega)
      have hj := h e (by omega)
      have s : z_sm W (e + 1) = z_sm W e + W e := rfl
      unfold z_wid at i ⊢
      rw [s, show e + 1 - a = (e - a) + 1 by omega, Nat.mul_succ (8 + c)]
      omega
theorem z_wid_1 {W : Nat → Nat} {a : Nat} : z_wid W a (a + 1) = 8 + W a := by
  unfold z_wid
  rw [show z_sm W (a + 1) = z_sm W a + W a from rfl]
  omega
/-- the sums of leasts grow: what is no line with so many items is none with more -/
theorem z_wid_lt {W : Nat → Nat} {a e : Nat} (h : a ≤ e) : z_wid W a e < z_wid W a (e + 1) := by
  unfold z_wid
  have m := z_sm_mono (w := W) h
  rw [show z_sm W (e + 1) = z_sm W e + W e from rfl]
  omega
theorem z_bad_le {w wd c : Nat} {l : Bool} (hw : w ≤ 500) (h : wd ≤ c) (hc : 500 ≤ c) : z_bad w wd l ≤ 4 * (c * c) := by
  unfold z_bad
  have sq : ∀ x y : Nat, x ≤ y → x * x ≤ y * y := fun x y h => Nat.mul_le_mul h h
  split
  · have := sq (wd - w) c (by omega); omega
  · split
    · omega
    · have := sq (w - wd) c (by omega); omega
theorem z_ok1 {L : Nat → Nat} {w a : Nat} : z_ok L w a 1 = true := decide_eq_true (Or.inl rfl)
/-- what the best way costs, and how many lines it has -/
theorem z_Z_le {I : Nat} {W L T : Nat → Nat} {w q : Nat} (hw : w ≤ 500) (hI : I ≤ 12) (hW : ∀ j, j < I → W j ≤ 768) (hT : ∀ j, T j ≤ 1600) : ∀ d a l, a + d = I → (z_Z I W L T w q a l).1 ≤ 3000000 * d ∧ (z_Z I W L T w q a l).2.1 ≤ d ∧ (0 < d → 1 ≤ (z_Z I W L T w q a l).2.1) := by
  intro d
  induction d using Nat.strongRecOn with
  | ind d ih =>
  intro a l h
  by_cases d0 : d = 0
  · rw [show a = I by omega, z_Z_end]
    exact ⟨Nat.zero_le _, Nat.zero_le _, fun z => by omega⟩
  · rw [z_Z_eq (by omega)]
    obtain ⟨p1, p2, p3, p4, p5, p6⟩ := z_sc_way (c := fun k => z_lc I W T w q a l k + (z_Z I W L T w q (a + k) (z_nl q l)).1) (n := fun k => 1 + (z_Z I W L T w q (a + k) (z_nl q l)).2.1) (ok := z_ok L w a) z_ok1 (I - a) (by omega)
    have one := p6 1 (Nat.le_refl _) (by omega) z_ok1
    obtain ⟨i1, -, -⟩ := ih (d - 1) (by omega) (a + 1) (z_nl q l) (by omega)
    generalize hk : (z_sc (fun k => z_lc I W T w q a l k + (z_Z I W L T w q (a + k) (z_nl q l)).1) (fun k => 1 + (z_Z I W L T w q (a + k) (z_nl q l)).2.1) (z_ok L w a) (I - a)).2.2 = k at p1 p2 p3 p4 p5
    obtain ⟨-, j2, -⟩ := ih (d - k) (by omega) (a + k) (z_nl q l) (by omega)
    have hWa := hW a (by omega)
    have hTa := hT (a + 1)
    have lc : z_lc I W T w q a l 1 ≤ 4 * (776 * 776) + 1600 := by
      unfold z_lc
      rw [z_wid_1]
      have := z_bad_le (w := w) (wd := 8 + W a) (c := 776) (l := decide (a + 1 = I)) hw (by omega) (by omega)
      split <;> omega
    refine ⟨?_, ?_, fun _ => ?_⟩
    · refine Nat.le_trans one ?_
      show z_lc I W T w q a l 1 + (z_Z I W L T w q (a + 1) (z_nl q l)).1 ≤ 3000000 * d
      omega
    · rw [p5]; omega
    · rw [p5]; omega
/-- every way that is tried costs less than what the class holds for none -/
theorem z_lc_le {I : Nat} {W T : Nat → Nat} {w q a l k : Nat} (hw : w ≤ 500) (hI : I ≤ 12) (hW : ∀ j, j < I → W j ≤ 768) (hT : ∀ j, T j ≤ 1600) (hk : a + k ≤ I) : z_lc I W T w q a l k ≤ 400000000 := by
  unfold z_lc
  have h1 := z_wid_le (a := a) hW (a + k) (by omega) hk
  have h2 : z_wid W a (a + k) ≤ 9312 := by
    rw [show a + k - a = k by omega] at h1
    omega
  have := z_bad_le (w := w) (l := decide (a + k = I)) hw h2 (by omega)
  have := hT (a + k)
  split <;> omega
end
section
def z_Bk (f : sx_F) (I : Nat) (W L T : Nat → Nat) (w q : Nat) : Prop := f 8 3 = nI I ∧ (∀ j, j ≤ I → f 17 j = nI (z_sm W j) ∧ f 18 j = nI (z_sm L j)) ∧ (∀ j, j ≤ I → f 20 j = nI (T j)) ∧ f 19 1 = nI w ∧ f 19 2 = nI q
theorem z_widI (W : Nat → Nat) {a e : Nat} (h : a ≤ e) : 8 * (nI e - nI a) + nI (z_sm W e) - nI (z_sm W a) = nI (z_wid W a e) := by
  have m := z_sm_mono (w := W) h
  rw [pk_sub h, z_l8, pk_mul, nI_add, pk_sub (by omega)]
  unfold z_wid
  rw [show 8 * (e - a) + z_sm W e - z_sm W a = 8 * (e - a) + (z_sm W e - z_sm W a) by omega]
theorem x_widthOf {f : sx_F} {I : Nat} {W L T : Nat → Nat} {w q a e : Nat} {Q : Int32 → Prop} (B : z_Bk f I W L T w q) (hI : I ≤ 12) (h1 : a ≤ e) (h2 : e ≤ I) (h : Q (nI (z_wid W a e))) : P_X0_widthOf f (nI a) (nI e) Q := by
  unfold P_X0_widthOf
  rw [nI_clamp (n := e) (by omega), nI_clamp (n := a) (by omega), (B.2.1 e h2).1, (B.2.1 a (by omega)).1, z_widI W h1]
  exact ⟨vp_in_nI (by omega) (by omega), vp_in_nI (by omega) (by omega), h⟩
theorem x_leastOf {f : sx_F} {I : Nat} {W L T : Nat → Nat} {w q a e : Nat} {Q : Int32 → Prop} (B : z_Bk f I W L T w q) (hI : I ≤ 12) (h1 : a ≤ e) (h2 : e ≤ I) (h : Q (nI (z_wid L a e))) : P_X0_leastOf f (nI a) (nI e) Q := by
  unfold P_X0_leastOf
  rw [nI_clamp (n := e) (by omega), nI_clamp (n := a) (by omega), (B.2.1 e h2).2, (B.2.1 a (by omega)).2, z_widI L h1]
  exact ⟨vp_in_nI (by omega) (by omega), vp_in_nI (by omega) (by omega), h⟩
theorem x_mayBeLine {f : sx_F} {I : Nat} {W L T : Nat → Nat} {w q a k : Nat} {Q : Int32 → Prop} (B : z_Bk f I W L T w q) (hI : I ≤ 12) (hw : w ≤ 500) (hL : ∀ j, j < I → L j ≤ 288) (h1 : 1 ≤ k) (h2 : a + k ≤ I) (h : Q (z_b (z_ok L w a k))) : P_X3_mayBeLine f (nI a) (nI (a + k)) Q := by
  intro B23 h23
  rw [pk_sub (by omega), show a + k - a = k by omega]
  unfold z_ok at h
  have hwid := z_wid_le (a := a) hL (a + k) (by omega) h2
  rw [show a + k - a = k by omega] at hwid
  refine pk_eq k 1 (fun c => h23 ?_) (fun c => x_leastOf B hI (by omega) h2 ?_)
  · rw [decide_eq_true (Or.inl c)] at h; exact h
  · rw [B.2.2.2.1]
    refine pk_lt w (z_wid L a (a + k)) (fun y => ?_) (fun y => h23 ?_)
    · rw [decide_eq_false (fun z => z.elim c (fun z => by omega))] at h; exact h
    · rw [decide_eq_true (Or.inr y)] at h; exact h
theorem z_negsq (x : Int32) : -x * -x = x * x := by
  rw [Int32.neg_mul, Int32.mul_neg, Int32.neg_neg]
theorem z_subneg {a b : Nat} (h : a ≤ b) : nI a - nI b = -nI (b - a) := by
  have e : nI b = nI a + nI (b - a) := by rw [nI_add, show a + (b - a) = b by omega]
  rw [e]
  apply Int32.toBitVec_inj.mp
  simp only [Int32.toBitVec_sub, Int32.toBitVec_add, Int32.toBitVec_neg]
  bv_omega
theorem x_badness {f : sx_F} {I : Nat} {W L T : Nat → Nat} {w q a e : Nat} {Q : Int32 → Prop} (B : z_Bk f I W L T w q) (hI : I ≤ 12) (hw : w ≤ 500) (hW : ∀ j, j < I → W j ≤ 768) (h1 : a ≤ e) (h2 : e ≤ I) (h : Q (nI (z_bad w (z_wid W a e) (decide (e = I))))) : P_X3_badness f (nI a) (nI e) Q := by
  have hwid := z_wid_le (a := a) hW e h1 h2
  refine x_widthOf B hI h1 h2 (nm_e ?_)
  rw [B.2.2.2.1, B.1]
  have hb : z_wid W a e ≤ 9312 := by
    have : (8 + 768) * (e - a) ≤ 776 * 12 := Nat.mul_le_mul (Nat.le_refl _) (by omega)
    omega
  unfold z_bad at h
  generalize z_wid W a e = wd at h hb
  by_cases c : w < wd
  · rw [if_pos c] at h
    rw [pk_sub (by omega)]
    refine pk_le (wd - w) 0 (fun y => absurd y (by omega)) (fun _ => ?_)
    rw [z_l2, pk_mul, pk_mul, pk_mul, show 2 * (wd - w) * 2 * (wd - w) = 4 * ((wd - w) * (wd - w)) by rw [Nat.mul_comm (2 * (wd - w)) 2, ← Nat.mul_assoc, Nat.mul_assoc]]
    exact h
  · rw [if_neg c] at h
    rw [z_subneg (by omega)]
    have neg : -nI (w - wd) ≤ 0 := by
      rw [Int32.le_iff_toInt_le]
      rw [← z_subneg (show wd ≤ w by omega), pk_sub_toInt (by omega) (by omega)]
      show ((wd : Int) - w) ≤ 0
      omega
    refine ⟨fun _ => pk_eq e I (fun y => ?_) (fun y => ?_), fun y => absurd neg y⟩
    · rw [decide_eq_true y] at h; exact h
    · rw [decide_eq_false y] at h
      rw [z_negsq, pk_mul]
      exact h
theorem x_nextOnPage {f : sx_F} {q l : Nat} {Q : Int32 → Prop} (h2 : f 19 2 = nI q) (hq : q ≤ 6) (hl : l < 6) (h : Q (nI (z_nl q l))) : P_X3_nextOnPage f (nI l) Q := by
  unfold P_X3_nextOnPage
  unfold z_nl at h
  rw [h2, nI_1]
  refine pk_le q (l + 1) (fun y => ?_) (fun y => ?_)
  · rw [if_neg (by omega)] at h; exact h
  · rw [if_pos y] at h; exact h
theorem x_turnAhead {f : sx_F} {I : Nat} {W L T : Nat → Nat} {w q e l : Nat} {Q : Int32 → Prop} (B : z_Bk f I W L T w q) (hI : I ≤ 12) (hl : l < 6) (h2 : e ≤ I) (h : Q (nI (if l + 1 < q then 0 else T e))) : P_X3_turnAhead f (nI e) (nI (z_nl q l)) Q := by
  have hn : z_nl q l ≤ 6 := by unfold z_nl; split <;> omega
  refine pk_eq (z_nl q l) 0 (fun y => ⟨vp_in_nI (by omega) (by omega), ?_⟩) (fun y => ?_)
  · rw [nI_clamp (by omega), B.2.2.1 e h2]
    unfold z_nl at y
    by_cases c : l + 1 < q
    · rw [if_pos c] at y; omega
    · rw [if_neg c] at h; exact h
  · unfold z_nl at y
    by_cases c : l + 1 < q
    · rw [if_pos c] at h; exact h
    · rw [if_neg c] at y; omega
theorem m_badness {g : sx_F} {w wd : Nat} {l : Bool} {Q : Int32 → Prop} (h6 : g 0 6 = nI w) (hw : w ≤ 500) (hb : wd ≤ 100000) (h : Q (nI (z_bad w wd l))) : P_X7_badness g (nI wd) (z_b l) Q := by
  intro B18 B32 h18 h32
  refine nm_e ?_
  rw [h6]
  unfold z_bad at h
  by_cases c : w < wd
  · rw [if_pos c] at h
    rw [z_subneg (by omega)]
    have neg : ¬ 0 ≤ -nI (wd - w) := by
      rw [Int32.le_iff_toInt_le, ← z_subneg (show w ≤ wd by omega), pk_sub_toInt (by omega) (by omega)]
      show ¬ (0 : Int) ≤ (w : Int) - wd
      omega
    have sq : Q ((2 * -nI (wd - w)) * (2 * -nI (wd - w))) := by
      rw [Int32.mul_neg, z_negsq, z_l2, pk_mul, pk_mul, show 2 * (wd - w) * (2 * (wd - w)) = 4 * ((wd - w) * (wd - w)) by rw [Nat.mul_mul_mul_comm]]
      exact h
    have le0 : -nI (wd - w) ≤ 0 := by
      rcases Int32.le_total 0 (-nI (wd - w)) with z | z
      · exact absurd z neg
      · exact z
    refine ⟨fun y => absurd y neg, fun _ => h18 _ _ ?_⟩
    exact ⟨fun _ => h32 _ sq, fun _ => ⟨fun _ => h32 _ sq, fun y => absurd le0 y⟩⟩
  · rw [if_neg c] at h
    rw [pk_sub (by omega)]
    refine ⟨fun _ => h18 _ _ ?_, fun y => absurd (nI_pos' (by omega)) y⟩
    cases l
    · refine ⟨fun _ => h32 _ ?_, fun y => absurd rfl y⟩
      rw [pk_mul]; exact h
    · refine ⟨fun y => absurd y (by decide), fun _ => pk_le (w - wd) 0 (fun y => h32 _ ?_) (fun y => h)⟩
      rw [show w - wd = 0 by omega]; exact h
end
section
/-- the class's rows of the table, of the items from one on -/
def z_Rw (f : sx_F) (I : Nat) (W L T : Nat → Nat) (w q a : Nat) : Prop := ∀ e l, a ≤ e → e ≤ I → l < q → f (22 + e) l = nI (z_Z I W L T w q e l).1 ∧ f (36 + e) l = nI (z_Z I W L T w q e l).2.1 ∧ (e < I → f (50 + e) l = nI (e + (z_Z I W L T w q e l).2.2))
theorem z_Bk.cg {f f' : sx_F} {I : Nat} {W L T : Nat → Nat} {w q : Nat} (B : z_Bk f I W L T w q) (h8 : f' 8 = f 8) (h17 : f' 17 = f 17) (h18 : f' 18 = f 18) (h19 : f' 19 = f 19) (h20 : f' 20 = f 20) : z_Bk f' I W L T w q := by
  unfold z_Bk at B ⊢
  rw [h8, h17, h18, h19, h20]
  exact B
theorem x_chooseLine {f : sx_F} {I : Nat} {W L T : Nat → Nat} {w q a l : Nat} {Q : sx_F → Prop} (B : z_Bk f I W L T w q) (hI : I ≤ 12) (hw : w ≤ 500) (hq : q ≤ 6) (hW : ∀ j, j < I → W j ≤ 768) (hL : ∀ j, j < I → L j ≤ 288) (hT : ∀ j, T j ≤ 1600) (ha : a < I) (hl : l < q) (R : z_Rw f I W L T w q (a + 1)) (h : ∀ f' : sx_F, (∀ k, k ≠ 22 + a → k ≠ 36 + a → k ≠ 50 + a → f' k = f k) → (∀ x, x ≠ l → f' (22 + a) x = f (22 + a) x ∧ f' (36 + a) x = f (36 + a) x ∧ f' (50 + a) x = f (50 + a) x) → f' (22 + a) l = nI (z_Z I W L T w q a l).1 → f' (36 + a) l = nI (z_Z I W L T w q a l).2.1 → f' (50 + a) l = nI (a + (z_Z I W L T w q a l).2.2) → Q f') : P_X3_chooseLine f (nI a) (nI l) Q := by
  intro B30 B134 B164 b30 b134 b164
  have hnl : z_nl q l < q := by unfold z_nl; split <;> omega
  rw [nI_clamp (n := a) (by omega), nI_clamp (n := l) (by omega)] at b30 b134 ⊢
  refine x_nextOnPage B.2.2.2.2 hq (by omega) ⟨vp_in_nI (by omega) (by omega), nm_e ⟨vp_in_nI (by omega) (by omega), nm_e ⟨vp_in_nI (by omega) (by omega), nm_e ⟨vp_in_nI (by omega) (by omega), nm_e (nm_e ?_)⟩⟩⟩⟩
  rw [nI_1]
  generalize hc : (fun k => z_lc I W T w q a l k + (z_Z I W L T w q (a + k) (z_nl q l)).1) = c
  generalize hnn : (fun k => 1 + (z_Z I W L T w q (a + k) (z_nl q l)).2.1) = n
  have hZ : z_Z I W L T w q a l = z_sc c n (z_ok L w a) (I - a) := by rw [← hc, ← hnn]; exact z_Z_eq ha
  have hcv : ∀ k, c k = z_lc I W T w q a l k + (z_Z I W L T w q (a + k) (z_nl q l)).1 := fun k => by rw [← hc]
  have hnv : ∀ k, n k = 1 + (z_Z I W L T w q (a + k) (z_nl q l)).2.1 := fun k => by rw [← hnn]
  have hcb : ∀ k, 1 ≤ k → a + k ≤ I → c k ≤ 500000000 ∧ n k ≤ 13 := fun k h1 h2 => by
    have b1 := z_lc_le (a := a) (l := l) (k := k) (q := q) hw hI hW hT h2
    obtain ⟨b2, b3, -⟩ := z_Z_le (L := L) (q := q) hw hI hW hT (I - (a + k)) (a + k) (z_nl q l) (by omega)
    rw [hcv, hnv]
    omega
  rw [hZ] at h
  have loop : ∀ f' : sx_F, (∀ k, k ≠ 22 + a → k ≠ 36 + a → k ≠ 50 + a → f' k = f k) → (∀ x, x ≠ l → f' (22 + a) x = f (22 + a) x ∧ f' (36 + a) x = f (36 + a) x ∧ f' (50 + a) x = f (50 + a) x) → ((0 = 0 ∧ f' (22 + a) l = 1000000000 ∧ f' (36 + a) l = 0) ∨ (1 ≤ 0 ∧ f' (22 + a) l = nI (z_sc c n (z_ok L w a) 0).1 ∧ f' (36 + a) l = nI (z_sc c n (z_ok L w a) 0).2.1 ∧ f' (50 + a) l = nI (a + (z_sc c n (z_ok L w a) 0).2.2))) → B30 f' (nI (z_nl q l)) (nI (a + (0 + 1))) := by
    refine z_up (B := fun k => ∀ f' : sx_F, (∀ k, k ≠ 22 + a → k ≠ 36 + a → k ≠ 50 + a → f' k = f k) → (∀ x, x ≠ l → f' (22 + a) x = f (22 + a) x ∧ f' (36 + a) x = f (36 + a) x ∧ f' (50 + a) x = f (50 + a) x) → ((k = 0 ∧ f' (22 + a) l = 1000000000 ∧ f' (36 + a) l = 0) ∨ (1 ≤ k ∧ f' (22 + a) l = nI (z_sc c n (z_ok L w a) k).1 ∧ f' (36 + a) l = nI (z_sc c n (z_ok L w a) k).2.1 ∧ f' (50 + a) l = nI (a + (z_sc c n (z_ok L w a) k).2.2))) → B30 f' (nI (z_nl q l)) (nI (a + (k + 1)))) (I - a) (fun k hk ih => ?_)
    intro f' f1 f2 f3
    have B' : z_Bk f' I W L T w q := B.cg (f1 8 (by omega) (by omega) (by omega)) (f1 17 (by omega) (by omega) (by omega)) (f1 18 (by omega) (by omega) (by omega)) (f1 19 (by omega) (by omega) (by omega)) (f1 20 (by omega) (by omega) (by omega))
    refine b30 _ _ _ ?_
    rw [B'.1]
    refine pk_lt I (a + (k + 1)) (fun z => ?_) (fun z => x_mayBeLine B' hI hw hL (by omega) z ?_)
    · have ek : k = I - a := by omega
      rcases f3 with ⟨k0, -⟩ | ⟨-, g1, g2, g3⟩
      · omega
      · rw [ek] at g1 g2 g3
        exact h f' f1 f2 g1 g2 g3
    cases hok : z_ok L w a (k + 1)
    · refine ⟨fun _ => ?_, fun y => absurd rfl y⟩
      have hk1 : 1 ≤ k := Nat.pos_of_ne_zero (fun y => by rw [y, z_ok1] at hok; exact absurd hok (by decide))
      have hw2 : w < z_wid L a (a + (k + 1)) := by
        unfold z_ok at hok
        rw [decide_eq_false_iff_not] at hok
        omega
      have grow : ∀ m, k + 1 ≤ m → w < z_wid L a (a + m) := by
        intro m hm
        induction m with
        | zero => omega
        | succ m ihm =>
          by_cases em : m + 1 = k + 1
          · rw [em]; exact hw2
          · have := ihm (by omega)
            have := z_wid_lt (W := L) (show a ≤ a + m by omega)
            rw [show a + (m + 1) = a + m + 1 by omega]
            omega
      have stop : z_sc c n (z_ok L w a) (I - a) = z_sc c n (z_ok L w a) k := z_sc_stop (I - a) hk (fun i h1 h2 => decide_eq_false (fun y => by
        have := grow i (by omega)
        omega))
      rcases f3 with ⟨k0, -⟩ | ⟨-, g1, g2, g3⟩
      · omega
      · rw [← stop] at g1 g2 g3
        exact h f' f1 f2 g1 g2 g3
    refine ⟨fun y => absurd y (by decide), fun _ => x_badness B' hI hw hW (by omega) z (x_turnAhead B' hI (by omega) z ⟨vp_in_nI (by omega) (by omega), nm_e ⟨vp_in_nI (by omega) (by omega), nm_e ⟨vp_in_nI (by omega) (by omega), nm_e ⟨vp_in_nI (by omega) (by omega), nm_e ⟨vp_in_nI (by omega) (by omega), nm_e ⟨vp_in_nI (by omega) (by omega), ?_⟩⟩⟩⟩⟩⟩)⟩
    obtain ⟨r1, r2, -⟩ := R (a + (k + 1)) (z_nl q l) (by omega) z hnl
    have ec : nI (z_bad w (z_wid W a (a + (k + 1))) (decide (a + (k + 1) = I))) + nI (if l + 1 < q then 0 else T (a + (k + 1))) + f' (22 + (nI (a + (k + 1))).toNatClampNeg) (nI (z_nl q l)).toNatClampNeg = nI (c (k + 1)) := by
      rw [nI_clamp (by omega), nI_clamp (by omega), f1 _ (by omega) (by omega) (by omega), r1, nI_add, nI_add, hcv]
      rfl
    have en : (1 : Int32) + f' (36 + (nI (a + (k + 1))).toNatClampNeg) (nI (z_nl q l)).toNatClampNeg = nI (n (k + 1)) := by
      rw [nI_clamp (by omega), nI_clamp (by omega), f1 _ (by omega) (by omega) (by omega), r2, hnv]
      exact nI_add 1 _
    rw [ec, en]
    obtain ⟨cb, nb⟩ := hcb (k + 1) (by omega) z
    have es : z_sc c n (z_ok L w a) (k + 1) = if z_ok L w a (k + 1) = true ∧ ((z_sc c n (z_ok L w a) k).2.2 = 0 ∨ c (k + 1) < (z_sc c n (z_ok L w a) k).1 ∨ (c (k + 1) = (z_sc c n (z_ok L w a) k).1 ∧ n (k + 1) < (z_sc c n (z_ok L w a) k).2.1)) then (c (k + 1), n (k + 1), k + 1) else z_sc c n (z_ok L w a) k := rfl
    -- it is taken
    have take : ((z_sc c n (z_ok L w a) k).2.2 = 0 ∨ c (k + 1) < (z_sc c n (z_ok L w a) k).1 ∨ (c (k + 1) = (z_sc c n (z_ok L w a) k).1 ∧ n (k + 1) < (z_sc c n (z_ok L w a) k).2.1)) → B134 f' (nI (z_nl q l)) (nI (a + (k + 1))) (nI (c (k + 1))) (nI (n (k + 1))) := by
      intro cnd
      rw [if_pos ⟨hok, cnd⟩] at es
      refine b134 _ _ _ _ _ ⟨vp_in_nI (by omega) (by omega), nm_e ⟨vp_in_nI (by omega) (by omega), nm_e ⟨vp_in_nI (by omega) (by omega), nm_e ⟨vp_in_nI (by omega) (by omega), nm_e ⟨vp_in_nI (by omega) (by omega), nm_e ⟨vp_in_nI (by omega) (by omega), nm_e (b164 _ _ _ (nm_e ?_))⟩⟩⟩⟩⟩⟩
      rw [nI_1, show a + (k + 1) + 1 = a + (k + 1 + 1) by omega]
      refine ih (by omega) _ (fun i h1 h2 h3 => by rw [sx_u_n h3, sx_u_n h2, sx_u_n h1]; exact f1 i h1 h2 h3) (fun x hx => ?_) (Or.inr ⟨by omega, ?_, ?_, ?_⟩)
      · obtain ⟨u1, u2, u3⟩ := f2 x hx
        simp (disch := omega) only [sx_u_n, sx_u_s, pk_un]
        exact ⟨u1, u2, u3⟩
      · rw [es]; simp (disch := omega) only [sx_u_n, sx_u_s, pk_us]
      · rw [es]; simp (disch := omega) only [sx_u_n, sx_u_s, pk_us]
      · rw [es]; simp (disch := omega) only [sx_u_n, sx_u_s, pk_us]
    have pass : ¬ ((z_sc c n (z_ok L w a) k).2.2 = 0 ∨ c (k + 1) < (z_sc c n (z_ok L w a) k).1 ∨ (c (k + 1) = (z_sc c n (z_ok L w a) k).1 ∧ n (k + 1) < (z_sc c n (z_ok L w a) k).2.1)) → B164 f' (nI (z_nl q l)) (nI (a + (k + 1))) := by
      intro cnd
      rw [if_neg (fun y => cnd y.2)] at es
      refine b164 _ _ _ (nm_e ?_)
      rw [nI_1, show a + (k + 1) + 1 = a + (k + 1 + 1) by omega]
      refine ih (by omega) f' f1 f2 (Or.inr ⟨by omega, ?_⟩)
      rw [es]
      rcases f3 with ⟨k0, -⟩ | ⟨-, g1⟩
      · exact absurd (Or.inl (by rw [k0]; rfl)) cnd
      · exact g1
    rcases f3 with ⟨k0, g1, g2⟩ | ⟨k1, g1, g2, g3⟩
    · rw [g1]
      exact pk_lt (c (k + 1)) 1000000000 (fun _ => take (Or.inl (by rw [k0]; rfl))) (fun y => absurd y (by omega))
    · obtain ⟨p1, p2, p3, p4, p5, p6⟩ := z_sc_way (c := c) (n := n) (ok := z_ok L w a) z_ok1 k k1
      obtain ⟨cb2, nb2⟩ := hcb _ p1 (show a + (z_sc c n (z_ok L w a) k).2.2 ≤ I by omega)
      rw [← p4] at cb2
      rw [← p5] at nb2
      rw [g1]
      refine pk_lt (c (k + 1)) (z_sc c n (z_ok L w a) k).1 (fun y => take (Or.inr (Or.inl y))) (fun y => ⟨vp_in_nI (by omega) (by omega), nm_e ⟨vp_in_nI (by omega) (by omega), ?_⟩⟩)
      rw [g1]
      refine pk_eq (c (k + 1)) (z_sc c n (z_ok L w a) k).1 (fun y1 => ⟨vp_in_nI (by omega) (by omega), nm_e ⟨vp_in_nI (by omega) (by omega), ?_⟩⟩) (fun y1 => pass (fun u => ?_))
      · rw [g2]
        exact pk_le (z_sc c n (z_ok L w a) k).2.1 (n (k + 1)) (fun y2 => pass (fun u => by omega)) (fun y2 => take (Or.inr (Or.inr ⟨y1, y2⟩)))
      · omega
  exact loop _ (fun i h1 h2 h3 => by rw [sx_u_n h2, sx_u_n h1]) (fun x hx => by simp (disch := omega) only [sx_u_n, sx_u_s, pk_un]; exact ⟨trivial, trivial, trivial⟩) (Or.inl ⟨rfl, by simp (disch := omega) only [sx_u_n, sx_u_s, pk_us], by simp (disch := omega) only [sx_u_n, sx_u_s, pk_us]⟩)
end
section
theorem z_IT_le {S : z_S} {bk j : Nat} : z_IT S bk j ≤ 1600 := by
  unfold z_IT
  have := z_tc_le (S := S) (bk := bk) (b := z_xb S bk j)
  split <;> omega
theorem x_breakLines {f : sx_F} {S : z_S} {bk w q : Nat} {Q : sx_F → Prop} (Z : z_X f S) (W : z_W S) (hbk : bk ≤ 5) (h8 : f 8 2 = nI bk) (G : z_G f S bk (S 0 0)) (hw : w ≤ 500) (hq1 : 1 ≤ q) (hq : q ≤ 6) (p1 : f 19 1 = nI w) (p2 : f 19 2 = nI q) (h : ∀ f' : sx_F, (∀ k, (k ≤ 19 ∨ 63 ≤ k) → f' k = f k) → z_Bk f' (z_it S bk (S 0 0)) (z_IW S bk) (z_IL S bk) (z_IT S bk) w q → z_Rw f' (z_it S bk (S 0 0)) (z_IW S bk) (z_IL S bk) (z_IT S bk) w q 0 → P_X3_setLines f' Q) : P_X3_breakLines f Q := by
  have hn := W.1
  have hitn : z_it S bk (S 0 0) ≤ S 0 0 := z_cnt_le _
  have hI : z_it S bk (S 0 0) ≤ 12 := by omega
  have hW : ∀ j, j < z_it S bk (S 0 0) → z_IW S bk j ≤ 768 := fun j hj => (z_IW_b W hbk hj).1
  have hL : ∀ j, j < z_it S bk (S 0 0) → z_IL S bk j ≤ 288 := fun j hj => (z_IW_b W hbk hj).2.2
  intro B6 B60 B66 b6 b60 b66
  refine x_priceTurns Z W hbk h8 G (fun f1 a1 a2 a3 => ?_)
  have hB1 : z_Bk f1 (z_it S bk (S 0 0)) (z_IW S bk) (z_IL S bk) (z_IT S bk) w q := by
    refine ⟨by rw [a1 8 (by decide)]; exact G.1, fun j hj => by rw [a1 17 (by decide), a1 18 (by decide)]; exact G.sums hj, fun j hj => ?_, by rw [a1 19 (by decide)]; exact p1, by rw [a1 19 (by decide)]; exact p2⟩
    unfold z_IT
    by_cases e : j < z_it S bk (S 0 0)
    · rw [if_pos e]
      obtain ⟨x, hx, hnx, hjx⟩ := z_cnt_ex (p := z_new S bk) (S 0 0) j e
      have hjx : z_it S bk x = j := hjx
      have ex := z_xb_eq hx hnx
      rw [hjx] at ex
      rw [ex, ← hjx]
      exact a2 x hx hnx
    · rw [if_neg e, show j = z_it S bk (S 0 0) by omega]
      exact a3
  have ha1 : ∀ k, (k ≤ 19 ∨ 63 ≤ k) → f1 k = f k := fun k hk => a1 k (by omega)
  generalize hIg : z_it S bk (S 0 0) = I at hI hW hL hB1 h
  generalize z_IW S bk = Wd at hW hB1 h
  generalize z_IL S bk = Ld at hL hB1 h
  have hT : ∀ j, z_IT S bk j ≤ 1600 := fun j => z_IT_le
  generalize z_IT S bk = T at hT hB1 h
  -- the rows from the end on
  have rows : ∀ a f2, a ≤ I → (∀ k, (k ≤ 19 ∨ 63 ≤ k) → f2 k = f k) → z_Bk f2 I Wd Ld T w q → z_Rw f2 I Wd Ld T w q a → ∀ v, ((a = 0 ∧ v < 0) ∨ (0 < a ∧ v = nI (a - 1))) → B60 f2 v := by
    intro a
    induction a with
    | zero =>
      intro f2 _ c1 c2 c3 v hv
      rcases hv with ⟨-, hv⟩ | ⟨hv, -⟩
      · exact b60 _ _ ⟨fun _ => h f2 c1 c2 c3, fun y => absurd hv y⟩
      · omega
    | succ a ih =>
      intro f2 ha c1 c2 c3 v hv
      rcases hv with ⟨hv, -⟩ | ⟨-, hv⟩
      · omega
      rw [hv, show a + 1 - 1 = a by omega]
      refine b60 _ _ ⟨fun y => absurd y (nI_pos (by omega)), fun _ => ?_⟩
      have loop : ∀ f3 : sx_F, (∀ k, (k ≤ 19 ∨ 63 ≤ k) → f3 k = f k) → z_Bk f3 I Wd Ld T w q → z_Rw f3 I Wd Ld T w q (a + 1) → (∀ l, l < 0 → f3 (22 + a) l = nI (z_Z I Wd Ld T w q a l).1 ∧ f3 (36 + a) l = nI (z_Z I Wd Ld T w q a l).2.1 ∧ f3 (50 + a) l = nI (a + (z_Z I Wd Ld T w q a l).2.2)) → B66 f3 (nI a) (nI 0) := by
        refine z_up (B := fun l0 => ∀ f3 : sx_F, (∀ k, (k ≤ 19 ∨ 63 ≤ k) → f3 k = f k) → z_Bk f3 I Wd Ld T w q → z_Rw f3 I Wd Ld T w q (a + 1) → (∀ l, l < l0 → f3 (22 + a) l = nI (z_Z I Wd Ld T w q a l).1 ∧ f3 (36 + a) l = nI (z_Z I Wd Ld T w q a l).2.1 ∧ f3 (50 + a) l = nI (a + (z_Z I Wd Ld T w q a l).2.2)) → B66 f3 (nI a) (nI l0)) q (fun l0 hl0 ihl => ?_)
        intro f3 d1 d2 d3 d4
        refine b66 _ _ _ ?_
        rw [d2.2.2.2.2]
        refine pk_le q l0 (fun y => nm_e ?_) (fun y => x_chooseLine d2 hI hw hq hW hL hT (by omega) y d3 (fun f4 u1 u2 u3 u4 u5 => nm_e ?_))
        · refine ih f3 (by omega) d1 d2 (fun e l he he2 hl => ?_) _ ?_
          · by_cases ee : e = a
            · rw [ee]
              obtain ⟨v1, v2, v3⟩ := d4 l (by omega)
              exact ⟨v1, v2, fun _ => v3⟩
            · exact d3 e l (by omega) he2 hl
          · by_cases e0 : a = 0
            · exact Or.inl ⟨e0, by rw [e0]; decide⟩
            · refine Or.inr ⟨by omega, ?_⟩
              rw [show a = (a - 1) + 1 by omega, pk_m1]; rfl
        · rw [nI_1]
          refine ihl y f4 (fun k hk => by rw [u1 k (by omega) (by omega) (by omega)]; exact d1 k hk) (d2.cg (u1 8 (by omega) (by omega) (by omega)) (u1 17 (by omega) (by omega) (by omega)) (u1 18 (by omega) (by omega) (by omega)) (u1 19 (by omega) (by omega) (by omega)) (u1 20 (by omega) (by omega) (by omega))) (fun e l he he2 hl => ?_) (fun l hl => ?_)
          · rw [u1 _ (by omega) (by omega) (by omega), u1 _ (by omega) (by omega) (by omega), u1 _ (by omega) (by omega) (by omega)]
            exact d3 e l he he2 hl
          · by_cases el : l = l0
            · rw [el]; exact ⟨u3, u4, u5⟩
            · obtain ⟨w1, w2, w3⟩ := u2 l el
              rw [w1, w2, w3]
              exact d4 l (by omega)
      exact loop f2 c1 c2 c3 (fun l hl => absurd hl (by omega))
  -- behind the last item
  have start : ∀ f2 : sx_F, (∀ k, (k ≤ 19 ∨ 63 ≤ k) → f2 k = f k) → z_Bk f2 I Wd Ld T w q → (∀ l, l < 0 → f2 (22 + I) l = 0 ∧ f2 (36 + I) l = 0) → B6 f2 (nI 0) := by
    refine z_up (B := fun l0 => ∀ f2 : sx_F, (∀ k, (k ≤ 19 ∨ 63 ≤ k) → f2 k = f k) → z_Bk f2 I Wd Ld T w q → (∀ l, l < l0 → f2 (22 + I) l = 0 ∧ f2 (36 + I) l = 0) → B6 f2 (nI l0)) q (fun l0 hl0 ihl => ?_)
    intro f2 c1 c2 c3
    refine b6 _ _ ?_
    rw [c2.2.2.2.2, c2.1]
    refine pk_le q l0 (fun y => nm_e ?_) (fun y => ⟨vp_in_nI (by omega) (by omega), nm_e ⟨vp_in_nI (by omega) (by omega), nm_e ?_⟩⟩)
    · refine rows I f2 (Nat.le_refl _) c1 c2 (fun e l he he2 hl => ?_) _ ?_
      · have ee : e = I := by omega
        rw [ee, z_Z_end]
        obtain ⟨v1, v2⟩ := c3 l (by omega)
        exact ⟨v1, v2, fun z => by omega⟩
      · by_cases e0 : I = 0
        · exact Or.inl ⟨e0, by rw [e0]; decide⟩
        · exact Or.inr ⟨by omega, pk_sub (a := I) (b := 1) (by omega)⟩
    · rw [nI_clamp (n := I) (by omega), nI_clamp (n := l0) (by omega), sx_u_n (by omega), c2.1]
      refine ⟨vp_in_nI (by omega) (by omega), nm_e ⟨vp_in_nI (by omega) (by omega), nm_e (nm_e ?_)⟩⟩
      rw [nI_clamp (n := I) (by omega), nI_1]
      refine ihl y _ (fun k hk => by rw [sx_u_n (by omega), sx_u_n (by omega)]; exact c1 k hk) (c2.cg (by rw [sx_u_n (by omega), sx_u_n (by omega)]) (by rw [sx_u_n (by omega), sx_u_n (by omega)]) (by rw [sx_u_n (by omega), sx_u_n (by omega)]) (by rw [sx_u_n (by omega), sx_u_n (by omega)]) (by rw [sx_u_n (by omega), sx_u_n (by omega)])) (fun l hl => ?_)
      rw [sx_u_n (by omega), sx_u_s, sx_u_s, sx_u_n (by omega)]
      by_cases el : l = l0
      · rw [el, pk_us, pk_us]; exact ⟨rfl, rfl⟩
      · rw [pk_un el, pk_un el]; exact c3 l (by omega)
  exact start f1 ha1 hB1 (fun l hl => absurd hl (by omega))
end
section
/-- the best way, line by line: where it begins on the page, and with which item -/
def z_lp (q : Nat) : Nat → Nat | 0 => 0 | l + 1 => z_nl q (z_lp q l)
def z_ps (Z : Nat → Nat → Nat × Nat × Nat) (q : Nat) : Nat → Nat | 0 => 0 | l + 1 => z_ps Z q l + (Z (z_ps Z q l) (z_lp q l)).2.2
def z_tn (Z : Nat → Nat → Nat × Nat × Nat) (T : Nat → Nat) (q : Nat) : Nat → Nat := z_sm (fun l => if z_lp q l + 1 < q then 0 else T (z_ps Z q (l + 1)))
theorem z_lp_lt {q : Nat} (hq : 1 ≤ q) : ∀ l, z_lp q l < q
  | 0 => hq
  | l + 1 => by
    show z_nl q (z_lp q l) < q
    unfold z_nl
    split <;> omega
theorem z_lp_mod {q : Nat} (hq : 1 ≤ q) : ∀ l, z_lp q l = l % q
  | 0 => (Nat.zero_mod q).symm
  | l + 1 => by
    have ih := z_lp_mod hq l
    have lt := Nat.mod_lt l (show 0 < q by omega)
    show z_nl q (z_lp q l) = _
    rw [ih]
    unfold z_nl
    rw [Nat.add_mod]
    by_cases q1 : q = 1
    · subst q1
      rw [if_neg (by omega)]
      exact (Nat.mod_one _).symm
    · rw [Nat.mod_eq_of_lt (show 1 < q by omega)]
      by_cases c : l % q + 1 < q
      · rw [if_pos c, Nat.mod_eq_of_lt c]
      · rw [if_neg c, show l % q + 1 = q by omega, Nat.mod_self]
theorem z_Z_step {I : Nat} {W L T : Nat → Nat} {w q a l : Nat} (h : a < I) : 1 ≤ (z_Z I W L T w q a l).2.2 ∧ a + (z_Z I W L T w q a l).2.2 ≤ I ∧ (z_Z I W L T w q a l).2.1 = 1 + (z_Z I W L T w q (a + (z_Z I W L T w q a l).2.2) (z_nl q l)).2.1 := by
  have e := z_Z_eq (W := W) (L := L) (T := T) (w := w) (q := q) (l := l) h
  obtain ⟨p1, p2, p3, p4, p5, p6⟩ := z_sc_way (c := fun k => z_lc I W T w q a l k + (z_Z I W L T w q (a + k) (z_nl q l)).1) (n := fun k => 1 + (z_Z I W L T w q (a + k) (z_nl q l)).2.1) (ok := z_ok L w a) z_ok1 (I - a) (by omega)
  rw [← e] at p1 p2 p5
  exact ⟨p1, by omega, p5⟩
theorem z_path {I : Nat} {W L T : Nat → Nat} {w q : Nat} : ∀ l, l ≤ (z_Z I W L T w q 0 0).2.1 → z_ps (z_Z I W L T w q) q l ≤ I ∧ (z_Z I W L T w q (z_ps (z_Z I W L T w q) q l) (z_lp q l)).2.1 + l = (z_Z I W L T w q 0 0).2.1 ∧ (l < (z_Z I W L T w q 0 0).2.1 → z_ps (z_Z I W L T w q) q l < I)
  | 0, _ => by
    refine ⟨Nat.zero_le _, rfl, fun h => ?_⟩
    show 0 < I
    refine Nat.pos_of_ne_zero (fun z => ?_)
    subst z
    rw [z_Z_end] at h
    exact absurd h (Nat.lt_irrefl 0)
  | l + 1, h => by
    obtain ⟨p1, p2, p3⟩ := z_path (I := I) (W := W) (L := L) (T := T) (w := w) (q := q) l (by omega)
    obtain ⟨s1, s2, s3⟩ := z_Z_step (W := W) (L := L) (T := T) (w := w) (q := q) (l := z_lp q l) (p3 (by omega))
    have e : z_ps (z_Z I W L T w q) q (l + 1) = z_ps (z_Z I W L T w q) q l + (z_Z I W L T w q (z_ps (z_Z I W L T w q) q l) (z_lp q l)).2.2 := rfl
    rw [e]
    refine ⟨s2, ?_, fun h2 => ?_⟩
    · show (z_Z I W L T w q _ (z_nl q (z_lp q l))).2.1 + (l + 1) = _
      omega
    · refine Nat.lt_of_le_of_ne s2 (fun z => ?_)
      rw [z, z_Z_end] at s3
      have : (z_Z I W L T w q (z_ps (z_Z I W L T w q) q l) (z_lp q l)).2.1 = 1 := s3
      omega
/-- the way ends behind the last item -/
theorem z_path_end {I : Nat} {W L T : Nat → Nat} {w q : Nat} (hw : w ≤ 500) (hI : I ≤ 12) (hW : ∀ j, j < I → W j ≤ 768) (hT : ∀ j, T j ≤ 1600) : z_ps (z_Z I W L T w q) q (z_Z I W L T w q 0 0).2.1 = I := by
  obtain ⟨p1, p2, -⟩ := z_path (I := I) (W := W) (L := L) (T := T) (w := w) (q := q) _ (Nat.le_refl _)
  refine Nat.le_antisymm p1 (Nat.le_of_not_lt (fun z => ?_))
  obtain ⟨-, -, c⟩ := z_Z_le (L := L) (q := q) hw hI hW hT (I - z_ps (z_Z I W L T w q) q (z_Z I W L T w q 0 0).2.1) (z_ps (z_Z I W L T w q) q (z_Z I W L T w q 0 0).2.1) (z_lp q (z_Z I W L T w q 0 0).2.1) (by omega)
  have := c (by omega)
  omega
/-- the lines as they stand in the class's rows, up to one -/
def z_Ln (f : sx_F) (Z : Nat → Nat → Nat × Nat × Nat) (q n : Nat) : Prop := (∀ l, l < n → f 63 l = nI (z_ps Z q l)) ∧ ∀ l j, l < n → z_ps Z q l ≤ j → j < z_ps Z q (l + 1) → f 64 j = nI l
theorem x_setLines {f : sx_F} {I : Nat} {W L T : Nat → Nat} {w q : Nat} {Q : sx_F → Prop} (B : z_Bk f I W L T w q) (R : z_Rw f I W L T w q 0) (hw : w ≤ 500) (hI : I ≤ 12) (hq1 : 1 ≤ q) (hq : q ≤ 6) (hW : ∀ j, j < I → W j ≤ 768) (hT : ∀ j, T j ≤ 1600) (h : ∀ f' : sx_F, (∀ k, k ≠ 19 → k ≠ 63 → k ≠ 64 → f' k = f k) → (∀ j, j ≠ 7 → j ≠ 8 → f' 19 j = f 19 j) → f' 19 7 = nI (z_Z I W L T w q 0 0).2.1 → f' 19 8 = nI (z_tn (z_Z I W L T w q) T q (z_Z I W L T w q 0 0).2.1) → z_Ln f' (z_Z I W L T w q) q (z_Z I W L T w q 0 0).2.1 → f' 63 (z_Z I W L T w q 0 0).2.1 = nI I → Q f') : P_X3_setLines f Q := by
  intro B23 B51 b23 b51
  have hN : (z_Z I W L T w q 0 0).2.1 ≤ 12 := by
    have := (z_Z_le (L := L) (q := q) hw hI hW hT I 0 0 (by omega)).2.1
    omega
  have hend := z_path_end (L := L) (q := q) hw hI hW hT
  have hpath := @z_path I W L T w q
  generalize hNg : (z_Z I W L T w q 0 0).2.1 = N at hN hend hpath h
  have r0 := (R 0 0 (Nat.le_refl _) (by omega) (by omega)).2.1
  rw [hNg] at r0
  refine ⟨by unfold vp_in; decide, nm_e ⟨by unfold vp_in; decide, nm_e (nm_e ?_)⟩⟩
  rw [sb_cl0, r0]
  have loop : ∀ f' : sx_F, (∀ k, k ≠ 19 → k ≠ 63 → k ≠ 64 → f' k = f k) → (∀ j, j ≠ 7 → j ≠ 8 → f' 19 j = f 19 j) → f' 19 7 = nI N → f' 19 8 = nI (z_tn (z_Z I W L T w q) T q 0) → z_Ln f' (z_Z I W L T w q) q 0 → B23 f' (nI (z_ps (z_Z I W L T w q) q 0)) (nI (z_lp q 0)) (nI 0) := by
    refine z_up (B := fun l => ∀ f' : sx_F, (∀ k, k ≠ 19 → k ≠ 63 → k ≠ 64 → f' k = f k) → (∀ j, j ≠ 7 → j ≠ 8 → f' 19 j = f 19 j) → f' 19 7 = nI N → f' 19 8 = nI (z_tn (z_Z I W L T w q) T q l) → z_Ln f' (z_Z I W L T w q) q l → B23 f' (nI (z_ps (z_Z I W L T w q) q l)) (nI (z_lp q l)) (nI l)) N (fun l hl ih => ?_)
    intro f' f1 f2 f3 f4 f5
    obtain ⟨q1, q2, q3⟩ := hpath l hl
    have hlp := z_lp_lt hq1 l
    refine b23 _ _ _ _ ?_
    rw [f3, nI_clamp (n := N) (by omega)]
    refine pk_le N l (fun y => ⟨vp_in_nI (by omega) (by omega), nm_e ?_⟩) (fun y => ⟨vp_in_nI (by omega) (by omega), nm_e ⟨vp_in_nI (by omega) (by omega), nm_e ⟨vp_in_nI (by omega) (by omega), nm_e ?_⟩⟩⟩)
    · have e : l = N := by omega
      subst e
      refine h _ (fun k h1 h2 h3 => by rw [sx_u_n h2]; exact f1 k h1 h2 h3) (fun j h1 h2 => by rw [sx_u_n (by decide)]; exact f2 j h1 h2) (by rw [sx_u_n (by decide)]; exact f3) (by rw [sx_u_n (by decide)]; exact f4) ⟨fun i hi => by rw [sx_u_s, pk_un (by omega)]; exact f5.1 i hi, fun i j h1 h2 h3 => by rw [sx_u_n (by decide)]; exact f5.2 i j h1 h2 h3⟩ (by rw [sx_u_s, pk_us, hend])
    · have r := (R (z_ps (z_Z I W L T w q) q l) (z_lp q l) (Nat.zero_le _) q1 hlp).2.2 (q3 y)
      obtain ⟨s1, s2, s3⟩ := z_Z_step (W := W) (L := L) (T := T) (w := w) (q := q) (l := z_lp q l) (q3 y)
      have e1 : z_ps (z_Z I W L T w q) q (l + 1) = z_ps (z_Z I W L T w q) q l + (z_Z I W L T w q (z_ps (z_Z I W L T w q) q l) (z_lp q l)).2.2 := rfl
      rw [nI_clamp (n := l) (by omega), nI_clamp (n := z_ps (z_Z I W L T w q) q l) (by omega), nI_clamp (n := z_lp q l) (by omega), sx_u_n (by omega), f1 _ (by omega) (by omega) (by omega), r, ← e1]
      rw [← e1] at s2
      have lt : z_ps (z_Z I W L T w q) q l < z_ps (z_Z I W L T w q) q (l + 1) := by omega
      clear e1 s1 s3
      generalize hp : z_ps (z_Z I W L T w q) q l = p at q1 q2 q3 lt r
      generalize hp' : z_ps (z_Z I W L T w q) q (l + 1) = p' at s2 lt
      have inner : ∀ m i, i + m = p' → p ≤ i → ∀ f6 : sx_F, (∀ k, k ≠ 19 → k ≠ 63 → k ≠ 64 → f6 k = f k) → f6 19 = f' 19 → f6 63 = upd (f' 63) l (nI p) → (∀ j, j < p → f6 64 j = f' 64 j) → (∀ j, p ≤ j → j < i → f6 64 j = nI l) → B51 f6 (nI (z_lp q l)) (nI l) (nI p') (nI i) := by
        intro m
        induction m with
        | zero =>
          intro i hi hpi f6 v1 v2 v3 v4 v5
          have ei : i = p' := by omega
          subst ei
          refine b51 _ _ _ _ _ (pk_le i i (fun _ => x_nextOnPage (by rw [v2, f2 2 (by decide) (by decide)]; exact B.2.2.2.2) hq (by omega) (x_turnAhead (I := I) (W := W) (L := L) (T := T) (w := w) ?_ hI (by omega) s2 (nm_e (nm_e ?_)))) (fun y => absurd y (by omega)))
          · refine ⟨by rw [v1 8 (by decide) (by decide) (by decide)]; exact B.1, fun j hj => by rw [v1 17 (by decide) (by decide) (by decide), v1 18 (by decide) (by decide) (by decide)]; exact B.2.1 j hj, fun j hj => by rw [v1 20 (by decide) (by decide) (by decide)]; exact B.2.2.1 j hj, by rw [v2, f2 1 (by decide) (by decide)]; exact B.2.2.2.1, by rw [v2, f2 2 (by decide) (by decide)]; exact B.2.2.2.2⟩
          · rw [nI_1, v2, f4, nI_add]
            have ih2 := ih y (sx_u f6 19 8 (nI (z_tn (z_Z I W L T w q) T q l + (if z_lp q l + 1 < q then 0 else T i)))) (fun k h1 h2 h3 => by rw [sx_u_n h1]; exact v1 k h1 h2 h3) (fun j h1 h2 => by rw [sx_u_s, pk_un h2, v2]; exact f2 j h1 h2) (by rw [sx_u_s, pk_un (by decide), v2]; exact f3) ?_ ⟨fun i2 hi2 => ?_, fun i2 j h1 h2 h3 => ?_⟩
            · rw [hp'] at ih2; exact ih2
            · rw [sx_u_s, pk_us]
              show _ = nI (z_tn (z_Z I W L T w q) T q l + (if z_lp q l + 1 < q then 0 else T (z_ps (z_Z I W L T w q) q (l + 1))))
              rw [hp']
            · rw [sx_u_n (by decide), v3]
              by_cases e : i2 = l
              · rw [e, pk_us, hp]
              · rw [pk_un e]; exact f5.1 i2 (by omega)
            · rw [sx_u_n (by decide)]
              by_cases e : i2 = l
              · rw [e] at h2 h3 ⊢
                rw [hp] at h2
                rw [hp'] at h3
                exact v5 j h2 h3
              · have mono : z_ps (z_Z I W L T w q) q (i2 + 1) ≤ p := by
                  have : ∀ a b, a ≤ b → z_ps (z_Z I W L T w q) q a ≤ z_ps (z_Z I W L T w q) q b := by
                    intro a b hab
                    induction b with
                    | zero => rw [show a = 0 by omega]; exact Nat.le_refl _
                    | succ b ihb =>
                      by_cases e3 : a = b + 1
                      · rw [e3]; exact Nat.le_refl _
                      · exact Nat.le_trans (ihb (by omega)) (Nat.le_add_right _ _)
                  rw [← hp]
                  exact this (i2 + 1) l (by omega)
                rw [v4 j (by omega)]
                exact f5.2 i2 j (by omega) h2 h3
        | succ m ihm =>
          intro i hi hpi f6 v1 v2 v3 v4 v5
          refine b51 _ _ _ _ _ (pk_le p' i (fun y => absurd y (by omega)) (fun _ => ⟨vp_in_nI (by omega) (by omega), nm_e (nm_e ?_)⟩))
          rw [nI_1, nI_clamp (by omega)]
          refine ihm (i + 1) (by omega) (by omega) _ (fun k h1 h2 h3 => by rw [sx_u_n h3]; exact v1 k h1 h2 h3) (by rw [sx_u_n (by decide)]; exact v2) (by rw [sx_u_n (by decide)]; exact v3) (fun j hj => by rw [sx_u_s, pk_un (by omega)]; exact v4 j hj) (fun j h1 h2 => ?_)
          rw [sx_u_s]
          by_cases e : j = i
          · rw [e, pk_us]
          · rw [pk_un e]; exact v5 j h1 (by omega)
      exact inner (p' - p) p (by omega) (Nat.le_refl _) _ (fun k h1 h2 h3 => by rw [sx_u_n h2]; exact f1 k h1 h2 h3) (by rw [sx_u_n (by decide)]) (by rw [sx_u_s]) (fun j hj => by rw [sx_u_n (by decide)]) (fun j h1 h2 => absurd h2 (by omega))
  refine loop _ (fun k h1 h2 h3 => by rw [sx_u_n h1, sx_u_n h1]) (fun j h1 h2 => by rw [sx_u_s, pk_un h2, sx_u_s, pk_un h1]) (by rw [sx_u_s, pk_un (by decide), sx_u_s, pk_us]) (by rw [sx_u_s, pk_us]; rfl) ⟨fun i hi => absurd hi (by omega), fun i j hi => absurd hi (by omega)⟩
end
section
/-- what the reference needs of a book to break it -/
def z_Bm (g : sx_F) (I : Nat) (W L : Nat → Nat) (w q : Nat) : Prop := g 0 20 = nI I ∧ (∀ j, j < I → g 20 j = nI (8 + W j) ∧ g 21 j = nI (8 + L j)) ∧ g 0 6 = nI w ∧ g 0 7 = nI q
def z_Rm (g : sx_F) (I : Nat) (W L T : Nat → Nat) (w q a : Nat) : Prop := ∀ e l, a ≤ e → e ≤ I → l < q → g 22 (6 * e + l) = nI (z_Z I W L T w q e l).1 ∧ g 23 (6 * e + l) = nI (z_Z I W L T w q e l).2.1 ∧ (e < I → g 24 (6 * e + l) = nI (z_Z I W L T w q e l).2.2)
theorem z_wid_s {W : Nat → Nat} {a e : Nat} (h : a ≤ e) : z_wid W a (e + 1) = z_wid W a e + (8 + W e) := by
  unfold z_wid
  have m := z_sm_mono (w := W) h
  rw [show z_sm W (e + 1) = z_sm W e + W e from rfl]
  omega
theorem z_nl_mod {q l : Nat} (hl : l < q) : (l + 1) % q = z_nl q l := by
  unfold z_nl
  by_cases c : l + 1 < q
  · rw [if_pos c, Nat.mod_eq_of_lt c]
  · rw [if_neg c, show l + 1 = q by omega, Nat.mod_self]
theorem m_breaks {g : sx_F} {I bk : Nat} {W L T : Nat → Nat} {w q : Nat} {Q : sx_F → Prop} (B : z_Bm g I W L w q) (hI : I ≤ 12) (hw : w ≤ 500) (hq1 : 1 ≤ q) (hq : q ≤ 6) (hW : ∀ j, j < I → W j ≤ 768) (hL : ∀ j, j < I → L j ≤ 288) (hT : ∀ j, T j ≤ 1600) (hTI : T I = 0)
    (ht : ∀ (g' : sx_F) (QQ : Int32 → Prop) (e : Nat), (∀ k, k ≠ 0 → k ≠ 22 → k ≠ 23 → k ≠ 24 → k ≠ 25 → g' k = g k) → (∀ j, j ≠ 31 → j ≠ 32 → g' 0 j = g 0 j) → 0 < e → e < I → QQ (nI (T e)) → P_X7_turnCost g' (nI bk) (g' 14 (e - 1)) QQ)
    (h : ∀ g' : sx_F, (∀ k, k ≠ 0 → k ≠ 22 → k ≠ 23 → k ≠ 24 → k ≠ 25 → g' k = g k) → (∀ j, j ≠ 31 → j ≠ 32 → g' 0 j = g 0 j) → z_Rm g' I W L T w q 0 → g' 0 31 = nI (z_Z I W L T w q 0 0).2.1 → g' 0 32 = nI (z_tn (z_Z I W L T w q) T q (z_Z I W L T w q 0 0).2.1) → (∀ l j, l < (z_Z I W L T w q 0 0).2.1 → z_ps (z_Z I W L T w q) q l ≤ j → j < z_ps (z_Z I W L T w q) q (l + 1) → g' 25 j = nI l) → Q g') : P_X7_breaks g (nI bk) Q := by
  intro B2 B53 B59 B92 B151 B225 B226 B282 B286 B287 B304 B343 B373 B407 B487 B488 b2 b53 b59 b92 b151 b225 b226 b282 b286 b287 b304 b343 b373 b407 b487 b488
  -- the lines, once the rows stand
  have lines : ∀ g2 : sx_F, (∀ k, k ≠ 22 → k ≠ 23 → k ≠ 24 → g2 k = g k) → z_Rm g2 I W L T w q 0 → B53 g2 (-1) := by
    intro g2 c1 c3
    have hN : (z_Z I W L T w q 0 0).2.1 ≤ 12 := by
      have := (z_Z_le (L := L) (q := q) hw hI hW hT I 0 0 (by omega)).2.1
      omega
    have hend := z_path_end (L := L) (q := q) hw hI hW hT
    have hpath := @z_path I W L T w q
    generalize hNg : (z_Z I W L T w q 0 0).2.1 = N at hN hend hpath h
    have c0 : g2 0 = g 0 := c1 0 (by decide) (by decide) (by decide)
    refine b53 _ _ ⟨fun _ => nm_e (nm_e ?_), fun y => absurd (by decide) y⟩
    have loop : ∀ g3 : sx_F, (∀ k, k ≠ 0 → k ≠ 25 → g3 k = g2 k) → (∀ j, j ≠ 31 → j ≠ 32 → g3 0 j = g 0 j) → g3 0 31 = nI 0 → g3 0 32 = nI (z_tn (z_Z I W L T w q) T q 0) → (∀ l j, l < 0 → z_ps (z_Z I W L T w q) q l ≤ j → j < z_ps (z_Z I W L T w q) q (l + 1) → g3 25 j = nI l) → B373 g3 (nI (z_ps (z_Z I W L T w q) q 0)) := by
      refine z_up (B := fun l => ∀ g3 : sx_F, (∀ k, k ≠ 0 → k ≠ 25 → g3 k = g2 k) → (∀ j, j ≠ 31 → j ≠ 32 → g3 0 j = g 0 j) → g3 0 31 = nI l → g3 0 32 = nI (z_tn (z_Z I W L T w q) T q l) → (∀ i j, i < l → z_ps (z_Z I W L T w q) q i ≤ j → j < z_ps (z_Z I W L T w q) q (i + 1) → g3 25 j = nI i) → B373 g3 (nI (z_ps (z_Z I W L T w q) q l))) N (fun l hl ih => ?_)
      intro g3 f1 f2 f3 f4 f5
      obtain ⟨q1, q2, q3⟩ := hpath l hl
      have hlp := z_lp_lt hq1 l
      refine b373 _ _ ?_
      rw [f2 20 (by decide) (by decide), B.1, f2 7 (by decide) (by decide), B.2.2.2, f3, pk_rem (a := l) (d := q) (by omega) (by omega) (by omega), ← z_lp_mod hq1 l]
      refine pk_le I (z_ps (z_Z I W L T w q) q l) (fun y => ?_) (fun y => ⟨nI_ne0 (by omega) (by omega), nm_e ?_⟩)
      · have e : l = N := by
          by_cases z : l < N
          · have := q3 z; omega
          · omega
        subst e
        exact h g3 (fun k h1 h2 h3 h4 h5 => by rw [f1 k h1 h5]; exact c1 k h2 h3 h4) f2 (fun e x he he2 hx => by rw [f1 22 (by decide) (by decide), f1 23 (by decide) (by decide), f1 24 (by decide) (by decide)]; exact c3 e x he he2 hx) f3 f4 f5
      · have lN : l < N := Nat.lt_of_not_le (fun z => by rw [show l = N by omega, hend] at y; omega)
        have r := (c3 (z_ps (z_Z I W L T w q) q l) (z_lp q l) (Nat.zero_le _) q1 hlp).2.2 y
        obtain ⟨s1, s2, s3⟩ := z_Z_step (W := W) (L := L) (T := T) (w := w) (q := q) (l := z_lp q l) y
        have ep : z_ps (z_Z I W L T w q) q (l + 1) = z_ps (z_Z I W L T w q) q l + (z_Z I W L T w q (z_ps (z_Z I W L T w q) q l) (z_lp q l)).2.2 := rfl
        rw [show (6 : Int32) * nI (z_ps (z_Z I W L T w q) q l) + nI (z_lp q l) = nI (6 * z_ps (z_Z I W L T w q) q l + z_lp q l) by rw [z_l6, pk_mul, nI_add], nI_clamp (n := 6 * z_ps (z_Z I W L T w q) q l + z_lp q l) (by omega), f1 24 (by decide) (by decide), r]
        refine ⟨vp_in_nI (by omega) (by omega), nm_e ?_⟩
        have inner : ∀ m i, i + m = z_ps (z_Z I W L T w q) q (l + 1) → z_ps (z_Z I W L T w q) q l ≤ i → ∀ g6 : sx_F, (∀ k, k ≠ 25 → g6 k = g3 k) → (∀ j, j < z_ps (z_Z I W L T w q) q l → g6 25 j = g3 25 j) → (∀ j, z_ps (z_Z I W L T w q) q l ≤ j → j < i → g6 25 j = nI l) → B407 g6 (nI (z_ps (z_Z I W L T w q) q l)) (nI (z_lp q l)) (nI (z_Z I W L T w q (z_ps (z_Z I W L T w q) q l) (z_lp q l)).2.2) (nI i) := by
          intro m
          induction m with
          | zero =>
            intro i hi hpi g6 v1 v2 v3
            have ei : i = z_ps (z_Z I W L T w q) q (l + 1) := by omega
            refine b407 _ _ _ _ _ ?_
            rw [nI_add, ← ep, ← ei]
            refine pk_le i i (fun _ => nm_e (nm_e ?_)) (fun z => absurd z (by omega))
            have fr0 : ∀ j, j ≠ 31 → j ≠ 32 → (sx_u g6 0 31 (g6 0 31 + 1)) 0 j = g 0 j := fun j h1 h2 => by rw [sx_u_s, pk_un h1, v1 0 (by decide)]; exact f2 j h1 h2
            have g31 : (sx_u g6 0 31 (g6 0 31 + 1)) 0 31 = nI (l + 1) := by rw [sx_u_s, pk_us, v1 0 (by decide), f3, nI_1]
            have g32 : (sx_u g6 0 31 (g6 0 31 + 1)) 0 32 = nI (z_tn (z_Z I W L T w q) T q l) := by rw [sx_u_s, pk_un (by decide), v1 0 (by decide)]; exact f4
            have gk : ∀ k, k ≠ 0 → (sx_u g6 0 31 (g6 0 31 + 1)) k = g6 k := fun k hk => sx_u_n hk
            generalize sx_u g6 0 31 (g6 0 31 + 1) = g7 at fr0 g31 g32 gk ⊢
            rw [fr0 7 (by decide) (by decide), B.2.2.2, fr0 20 (by decide) (by decide), B.1, g32, show nI q - 1 = nI (q - 1) from pk_sub (a := q) (b := 1) (by omega)]
            have etn : z_tn (z_Z I W L T w q) T q (l + 1) = z_tn (z_Z I W L T w q) T q l + (if z_lp q l + 1 < q then 0 else T (z_ps (z_Z I W L T w q) q (l + 1))) := rfl
            have fin : ∀ s2 : Int32, nI (z_tn (z_Z I W L T w q) T q l) + s2 = nI (z_tn (z_Z I W L T w q) T q (l + 1)) → B488 g7 (nI i) (nI (z_tn (z_Z I W L T w q) T q l)) s2 := by
              intro s2 hs2
              refine b488 _ _ _ _ (nm_e ?_)
              rw [hs2, ei]
              refine ih lN _ (fun k h1 h2 => by rw [sx_u_n h1, gk k h1, v1 k h2]; exact f1 k h1 h2) (fun j h1 h2 => by rw [sx_u_s, pk_un h2]; exact fr0 j h1 h2) (by rw [sx_u_s, pk_un (by decide)]; exact g31) (by rw [sx_u_s, pk_us]) (fun i2 j h1 h2 h3 => ?_)
              rw [sx_u_n (by decide), gk 25 (by decide)]
              by_cases e : i2 = l
              · rw [e] at h2 h3 ⊢
                exact v3 j h2 (by omega)
              · have mono : ∀ a b, a ≤ b → z_ps (z_Z I W L T w q) q a ≤ z_ps (z_Z I W L T w q) q b := by
                  intro a b hab
                  induction b with
                  | zero => rw [show a = 0 by omega]; exact Nat.le_refl _
                  | succ b ihb =>
                    by_cases e3 : a = b + 1
                    · rw [e3]; exact Nat.le_refl _
                    · exact Nat.le_trans (ihb (by omega)) (Nat.le_add_right _ _)
                have := mono (i2 + 1) l (by omega)
                rw [v2 j (by omega)]
                exact f5 i2 j (by omega) h2 h3
            refine pk_eq (z_lp q l) (q - 1) (fun y1 => ?_) (fun y1 => b487 _ _ _ (fin _ ?_))
            · rw [if_neg (by omega), ← ei] at etn
              refine pk_le I i (fun y2 => b487 _ _ _ (fin _ ?_)) (fun y2 => ?_)
              · rw [show i = I by omega, hTI] at etn
                rw [etn, Int32.add_zero, Nat.add_zero]
              · rw [show nI i - 1 = nI (i - 1) from pk_sub (a := i) (b := 1) (by omega), nI_clamp (by omega)]
                exact ⟨vp_in_nI (by omega) (by omega), ht g7 _ i (fun k h1 h2 h3 h4 h5 => by rw [gk k h1, v1 k h5, f1 k h1 h5]; exact c1 k h2 h3 h4) fr0 (by omega) (by omega) (fin _ (by rw [etn, nI_add]))⟩
            · rw [if_pos (by omega)] at etn
              rw [etn, Int32.add_zero, Nat.add_zero]
          | succ m ihm =>
            intro i hi hpi g6 v1 v2 v3
            refine b407 _ _ _ _ _ ?_
            rw [nI_add, ← ep]
            refine pk_le (z_ps (z_Z I W L T w q) q (l + 1)) i (fun z => absurd z (by omega)) (fun _ => ⟨vp_in_nI (by omega) (by omega), nm_e (nm_e ?_)⟩)
            rw [nI_1, nI_clamp (by omega), v1 0 (by decide), f3]
            refine ihm (i + 1) (by omega) (by omega) _ (fun k hk => by rw [sx_u_n hk]; exact v1 k hk) (fun j hj => by rw [sx_u_s, pk_un (by omega)]; exact v2 j hj) (fun j h1 h2 => ?_)
            rw [sx_u_s]
            by_cases e : j = i
            · rw [e, pk_us]
            · rw [pk_un e]; exact v3 j h1 (by omega)
        exact inner (z_ps (z_Z I W L T w q) q (l + 1) - z_ps (z_Z I W L T w q) q l) (z_ps (z_Z I W L T w q) q l) (by omega) (Nat.le_refl _) g3 (fun _ _ => rfl) (fun _ _ => rfl) (fun j h1 h2 => absurd h2 (by omega))
    exact loop _ (fun k h1 h2 => by rw [sx_u_n h1, sx_u_n h1]) (fun j h1 h2 => by rw [sx_u_s, pk_un h2, sx_u_s, pk_un h1, c0]) (by rw [sx_u_s, pk_un (by decide), sx_u_s, pk_us]; rfl) (by rw [sx_u_s, pk_us]; rfl) (fun i j hi => absurd hi (by omega))
  have rows : ∀ a g2, a ≤ I → (∀ k, k ≠ 22 → k ≠ 23 → k ≠ 24 → g2 k = g k) → z_Rm g2 I W L T w q a → ∀ v, ((a = 0 ∧ v = -1) ∨ (0 < a ∧ v = nI (a - 1))) → B53 g2 v := by
    intro a
    induction a with
    | zero =>
      intro g2 _ c1 c3 v hv
      rcases hv with ⟨-, hv⟩ | ⟨hv, -⟩
      · rw [hv]; exact lines g2 c1 c3
      · omega
    | succ a ih =>
      intro g2 ha c1 c3 v hv
      rcases hv with ⟨hv, -⟩ | ⟨-, hv⟩
      · omega
      rw [hv, show a + 1 - 1 = a by omega]
      refine b53 _ _ ⟨fun y => absurd y (nI_pos (by omega)), fun _ => ?_⟩
      have loop : ∀ g3 : sx_F, (∀ k, k ≠ 22 → k ≠ 23 → k ≠ 24 → g3 k = g k) → z_Rm g3 I W L T w q (a + 1) → (∀ l, l < 0 → g3 22 (6 * a + l) = nI (z_Z I W L T w q a l).1 ∧ g3 23 (6 * a + l) = nI (z_Z I W L T w q a l).2.1 ∧ g3 24 (6 * a + l) = nI (z_Z I W L T w q a l).2.2) → B59 g3 (nI a) (nI 0) := by
        refine z_up (B := fun l0 => ∀ g3 : sx_F, (∀ k, k ≠ 22 → k ≠ 23 → k ≠ 24 → g3 k = g k) → z_Rm g3 I W L T w q (a + 1) → (∀ l, l < l0 → g3 22 (6 * a + l) = nI (z_Z I W L T w q a l).1 ∧ g3 23 (6 * a + l) = nI (z_Z I W L T w q a l).2.1 ∧ g3 24 (6 * a + l) = nI (z_Z I W L T w q a l).2.2) → B59 g3 (nI a) (nI l0)) q (fun l hl ihl => ?_)
        intro g3 d1 d3 d4
        refine b59 _ _ _ ?_
        rw [d1 0 (by decide) (by decide) (by decide), B.2.2.2]
        refine pk_le q l (fun y => nm_e ?_) (fun y => nm_e ?_)
        · refine ih g3 (by omega) d1 (fun e x he he2 hx => ?_) _ ?_
          · by_cases ee : e = a
            · rw [ee]
              obtain ⟨v1, v2, v3⟩ := d4 x (by omega)
              exact ⟨v1, v2, fun _ => v3⟩
            · exact d3 e x (by omega) he2 hx
          · by_cases e0 : a = 0
            · exact Or.inl ⟨e0, by rw [e0]; decide⟩
            · refine Or.inr ⟨by omega, ?_⟩
              rw [show a = (a - 1) + 1 by omega, pk_m1]; rfl
        · rw [show (6 : Int32) * nI a + nI l = nI (6 * a + l) by rw [z_l6, pk_mul, nI_add], nI_clamp (n := 6 * a + l) (by omega)]
          refine ⟨vp_in_nI (by omega) (by omega), nm_e ?_⟩
          have hnl : z_nl q l < q := by unfold z_nl; split <;> omega
          generalize hc : (fun k => z_lc I W T w q a l k + (z_Z I W L T w q (a + k) (z_nl q l)).1) = c
          generalize hnn : (fun k => 1 + (z_Z I W L T w q (a + k) (z_nl q l)).2.1) = n
          have hZ : z_Z I W L T w q a l = z_sc c n (z_ok L w a) (I - a) := by rw [← hc, ← hnn]; exact z_Z_eq (by omega)
          have hcv : ∀ k, c k = z_lc I W T w q a l k + (z_Z I W L T w q (a + k) (z_nl q l)).1 := fun k => by rw [← hc]
          have hnv : ∀ k, n k = 1 + (z_Z I W L T w q (a + k) (z_nl q l)).2.1 := fun k => by rw [← hnn]
          have hcb : ∀ k, 1 ≤ k → a + k ≤ I → c k ≤ 500000000 ∧ n k ≤ 13 := fun k h1 h2 => by
            have b1 := z_lc_le (a := a) (l := l) (k := k) (q := q) hw hI hW hT h2
            obtain ⟨b2, b3, -⟩ := z_Z_le (L := L) (q := q) hw hI hW hT (I - (a + k)) (a + k) (z_nl q l) (by omega)
            rw [hcv, hnv]
            omega
          have inner : ∀ g4 : sx_F, (∀ k, k ≠ 22 → k ≠ 23 → k ≠ 24 → g4 k = g k) → (∀ i, i ≠ 6 * a + l → g4 22 i = g3 22 i ∧ g4 23 i = g3 23 i ∧ g4 24 i = g3 24 i) → (g4 24 (6 * a + l) = nI (z_sc c n (z_ok L w a) 0).2.2 ∧ (1 ≤ 0 → g4 22 (6 * a + l) = nI (z_sc c n (z_ok L w a) 0).1 ∧ g4 23 (6 * a + l) = nI (z_sc c n (z_ok L w a) 0).2.1)) → B92 g4 (nI a) (nI l) (nI (6 * a + l)) (nI (z_wid W a (a + 0))) (nI (z_wid L a (a + 0))) (nI (0 + 1)) := by
            refine z_up (B := fun k => ∀ g4 : sx_F, (∀ k, k ≠ 22 → k ≠ 23 → k ≠ 24 → g4 k = g k) → (∀ i, i ≠ 6 * a + l → g4 22 i = g3 22 i ∧ g4 23 i = g3 23 i ∧ g4 24 i = g3 24 i) → (g4 24 (6 * a + l) = nI (z_sc c n (z_ok L w a) k).2.2 ∧ (1 ≤ k → g4 22 (6 * a + l) = nI (z_sc c n (z_ok L w a) k).1 ∧ g4 23 (6 * a + l) = nI (z_sc c n (z_ok L w a) k).2.1)) → B92 g4 (nI a) (nI l) (nI (6 * a + l)) (nI (z_wid W a (a + k))) (nI (z_wid L a (a + k))) (nI (k + 1))) (I - a) (fun k hk ihk => ?_)
            intro g4 u1 u2 u3
            have u0 : g4 0 = g 0 := u1 0 (by decide) (by decide) (by decide)
            refine b92 _ _ _ _ _ _ _ ?_
            rw [u0, B.1, nI_add]
            refine pk_lt I (a + (k + 1)) (fun z => nm_e ?_) (fun z => ?_)
            · have ek : k = I - a := by omega
              rw [ek, ← hZ] at u3
              obtain ⟨u4, u5⟩ := u3
              obtain ⟨u6, u7⟩ := u5 (by omega)
              rw [nI_1]
              refine ihl y g4 u1 (fun e x he he2 hx => ?_) (fun x hx => ?_)
              · obtain ⟨r1, r2, r3⟩ := u2 (6 * e + x) (by omega)
                rw [r1, r2, r3]
                exact d3 e x he he2 hx
              · by_cases ex : x = l
                · rw [ex]; exact ⟨u6, u7, u4⟩
                · obtain ⟨r1, r2, r3⟩ := u2 (6 * a + x) (by omega)
                  rw [r1, r2, r3]
                  exact d4 x (by omega)
            have e1 : nI (a + (k + 1)) - 1 = nI (a + k) := pk_sub (a := a + (k + 1)) (b := 1) (by omega)
            obtain ⟨m1, m2⟩ := B.2.1 (a + k) (by omega)
            rw [e1, nI_clamp (n := a + k) (by omega), u1 20 (by decide) (by decide) (by decide), m1, nI_add, u1 21 (by decide) (by decide) (by decide), m2, nI_add, ← z_wid_s (W := W) (show a ≤ a + k by omega), ← z_wid_s (W := L) (show a ≤ a + k by omega)]
            have hwW := z_wid_le (a := a) hW (a + (k + 1)) (by omega) z
            have hwL := z_wid_le (a := a) hL (a + (k + 1)) (by omega) z
            have hwW' : z_wid W a (a + (k + 1)) ≤ 9312 := by
              rw [show a + (k + 1) - a = k + 1 by omega] at hwW; omega
            have hwL' : z_wid L a (a + (k + 1)) ≤ 9312 := by
              rw [show a + (k + 1) - a = k + 1 by omega] at hwL; omega
            rw [show a + k + 1 = a + (k + 1) by omega]
            obtain ⟨cb, nb⟩ := hcb (k + 1) (by omega) z
            have es : z_sc c n (z_ok L w a) (k + 1) = if z_ok L w a (k + 1) = true ∧ ((z_sc c n (z_ok L w a) k).2.2 = 0 ∨ c (k + 1) < (z_sc c n (z_ok L w a) k).1 ∨ (c (k + 1) = (z_sc c n (z_ok L w a) k).1 ∧ n (k + 1) < (z_sc c n (z_ok L w a) k).2.1)) then (c (k + 1), n (k + 1), k + 1) else z_sc c n (z_ok L w a) k := rfl
            have nx1 : 6 * (a + (k + 1)) + z_nl q l ≠ 6 * a + l := by omega
            obtain ⟨q1, q2, q3⟩ := u2 (6 * (a + (k + 1)) + z_nl q l) nx1
            obtain ⟨r1, r2, -⟩ := d3 (a + (k + 1)) (z_nl q l) (by omega) z hnl
            rw [r1] at q1
            rw [r2] at q2
            have next : ∀ g5 : sx_F, (∀ k, k ≠ 22 → k ≠ 23 → k ≠ 24 → g5 k = g k) → (∀ i, i ≠ 6 * a + l → g5 22 i = g3 22 i ∧ g5 23 i = g3 23 i ∧ g5 24 i = g3 24 i) → (g5 24 (6 * a + l) = nI (z_sc c n (z_ok L w a) (k + 1)).2.2 ∧ (1 ≤ k + 1 → g5 22 (6 * a + l) = nI (z_sc c n (z_ok L w a) (k + 1)).1 ∧ g5 23 (6 * a + l) = nI (z_sc c n (z_ok L w a) (k + 1)).2.1)) → B343 g5 (nI a) (nI l) (nI (6 * a + l)) (nI (z_wid W a (a + (k + 1)))) (nI (z_wid L a (a + (k + 1)))) (nI (k + 1)) := fun g5 v1 v2 v3 => b343 _ _ _ _ _ _ _ (nm_e (by rw [nI_1]; exact ihk (by omega) g5 v1 v2 v3))
            have same : 1 ≤ k → z_sc c n (z_ok L w a) (k + 1) = z_sc c n (z_ok L w a) k → B343 g4 (nI a) (nI l) (nI (6 * a + l)) (nI (z_wid W a (a + (k + 1)))) (nI (z_wid L a (a + (k + 1)))) (nI (k + 1)) := fun k1 e => next g4 u1 u2 (by rw [e]; exact ⟨u3.1, fun _ => u3.2 k1⟩)
            have T304 : ∀ bb : Bool, z_ok L w a (k + 1) = true → (bb = true ↔ ((z_sc c n (z_ok L w a) k).2.2 = 0 ∨ c (k + 1) < (z_sc c n (z_ok L w a) k).1 ∨ (c (k + 1) = (z_sc c n (z_ok L w a) k).1 ∧ n (k + 1) < (z_sc c n (z_ok L w a) k).2.1))) → B304 g4 (nI a) (nI l) (nI (6 * a + l)) (nI (z_wid W a (a + (k + 1)))) (nI (z_wid L a (a + (k + 1)))) (nI (k + 1)) (nI (6 * (a + (k + 1)) + z_nl q l)) (nI (c (k + 1))) (z_b bb) := by
              intro bb hok hbb
              refine b304 _ _ _ _ _ _ _ _ _ _ ?_
              cases bb
              · refine ⟨fun _ => ?_, fun y => absurd rfl y⟩
                have nc : ¬ ((z_sc c n (z_ok L w a) k).2.2 = 0 ∨ c (k + 1) < (z_sc c n (z_ok L w a) k).1 ∨ (c (k + 1) = (z_sc c n (z_ok L w a) k).1 ∧ n (k + 1) < (z_sc c n (z_ok L w a) k).2.1)) := fun y => absurd (hbb.mpr y) (by decide)
                rw [if_neg (fun y => nc y.2)] at es
                exact same (Nat.pos_of_ne_zero (fun y => nc (Or.inl (by rw [y]; rfl)))) es
              · refine ⟨fun y => absurd y (by decide), fun _ => ?_⟩
                rw [if_pos ⟨hok, hbb.mp rfl⟩] at es
                rw [nI_clamp (n := 6 * a + l) (by omega), nI_clamp (n := 6 * (a + (k + 1)) + z_nl q l) (by omega)]
                refine ⟨vp_in_nI (by omega) (by omega), nm_e ⟨vp_in_nI (by omega) (by omega), nm_e ⟨vp_in_nI (by omega) (by omega), vp_in_nI (by omega) (by omega), nm_e ?_⟩⟩⟩
                have e23 : (sx_u (sx_u g4 24 (6 * a + l) (nI (k + 1))) 22 (6 * a + l) (nI (c (k + 1)))) 23 (6 * (a + (k + 1)) + z_nl q l) + 1 = nI (n (k + 1)) := by
                  rw [sx_u_n (by decide), sx_u_n (by decide), q2, nI_1, hnv, Nat.add_comm]
                rw [e23]
                refine next _ (fun i h1 h2 h3 => by rw [sx_u_n h2, sx_u_n h1, sx_u_n h3]; exact u1 i h1 h2 h3) (fun i hi => ?_) ?_
                · obtain ⟨t1, t2, t3⟩ := u2 i hi
                  refine ⟨?_, ?_, ?_⟩
                  · rw [sx_u_n (by decide), sx_u_s, pk_un hi, sx_u_n (by decide)]; exact t1
                  · rw [sx_u_s, pk_un hi, sx_u_n (by decide), sx_u_n (by decide)]; exact t2
                  · rw [sx_u_n (by decide), sx_u_n (by decide), sx_u_s, pk_un hi]; exact t3
                · rw [es]
                  refine ⟨?_, fun _ => ⟨?_, ?_⟩⟩
                  · rw [sx_u_n (by decide), sx_u_n (by decide), sx_u_s, pk_us]
                  · rw [sx_u_n (by decide), sx_u_s, pk_us]
                  · rw [sx_u_s, pk_us]
            have T287 : ∀ bb : Bool, (bb = true ↔ ((z_sc c n (z_ok L w a) k).2.2 = 0 ∨ c (k + 1) < (z_sc c n (z_ok L w a) k).1 ∨ (c (k + 1) = (z_sc c n (z_ok L w a) k).1 ∧ n (k + 1) < (z_sc c n (z_ok L w a) k).2.1))) → B287 g4 (nI a) (nI l) (nI (6 * a + l)) (nI (z_wid W a (a + (k + 1)))) (nI (z_wid L a (a + (k + 1)))) (nI (k + 1)) (nI (6 * (a + (k + 1)) + z_nl q l)) (nI (c (k + 1))) (z_b bb) := by
              intro bb hbb
              refine b287 _ _ _ _ _ _ _ _ _ _ (pk_eq (k + 1) 1 (fun y => T304 bb (by rw [y]; exact z_ok1) hbb) (fun y => ?_))
              rw [u0, B.2.2.1]
              refine pk_lt w (z_wid L a (a + (k + 1))) (fun y1 => ?_) (fun y1 => T304 bb (decide_eq_true (Or.inr y1)) hbb)
              have nok : z_ok L w a (k + 1) = false := decide_eq_false (fun y2 => y2.elim y (fun y2 => by omega))
              rw [if_neg (fun y2 => by rw [nok] at y2; exact absurd y2.1 (by decide))] at es
              exact same (by omega) es
            have T226 : ∀ s0 s1 : Int32, s0 + s1 = nI (c (k + 1)) → B226 g4 (nI a) (nI l) (nI (6 * a + l)) (nI (z_wid W a (a + (k + 1)))) (nI (z_wid L a (a + (k + 1)))) (nI (k + 1)) (nI (6 * (a + (k + 1)) + z_nl q l)) s0 s1 := by
              intro s0 s1 hs
              refine b226 _ _ _ _ _ _ _ _ _ _ (nm_e ?_)
              rw [hs, nI_clamp (n := 6 * a + l) (by omega), nI_clamp (n := 6 * (a + (k + 1)) + z_nl q l) (by omega), u3.1, q2, nI_1]
              have yes : ((z_sc c n (z_ok L w a) k).2.2 = 0 ∨ c (k + 1) < (z_sc c n (z_ok L w a) k).1 ∨ (c (k + 1) = (z_sc c n (z_ok L w a) k).1 ∧ n (k + 1) < (z_sc c n (z_ok L w a) k).2.1)) → B282 g4 (nI a) (nI l) (nI (6 * a + l)) (nI (z_wid W a (a + (k + 1)))) (nI (z_wid L a (a + (k + 1)))) (nI (k + 1)) (nI (6 * (a + (k + 1)) + z_nl q l)) (nI (c (k + 1))) := fun y => b282 _ _ _ _ _ _ _ _ _ (T287 true ⟨fun _ => y, fun _ => rfl⟩)
              have no : ¬ ((z_sc c n (z_ok L w a) k).2.2 = 0 ∨ c (k + 1) < (z_sc c n (z_ok L w a) k).1 ∨ (c (k + 1) = (z_sc c n (z_ok L w a) k).1 ∧ n (k + 1) < (z_sc c n (z_ok L w a) k).2.1)) → B286 g4 (nI a) (nI l) (nI (6 * a + l)) (nI (z_wid W a (a + (k + 1)))) (nI (z_wid L a (a + (k + 1)))) (nI (k + 1)) (nI (6 * (a + (k + 1)) + z_nl q l)) (nI (c (k + 1))) := fun y => b286 _ _ _ _ _ _ _ _ _ (T287 false ⟨fun z => absurd z (by decide), fun z => absurd z y⟩)
              by_cases k0 : k = 0
              · have z0 : (z_sc c n (z_ok L w a) k).2.2 = 0 := by rw [k0]; rfl
                rw [z0]
                exact ⟨vp_in_nI (by omega) (by omega), fun _ => yes (Or.inl z0), fun y => absurd rfl y⟩
              · obtain ⟨p1, p2, p3, p4, p5, p6⟩ := z_sc_way (c := c) (n := n) (ok := z_ok L w a) z_ok1 k (by omega)
                obtain ⟨cb2, nb2⟩ := hcb _ p1 (show a + (z_sc c n (z_ok L w a) k).2.2 ≤ I by omega)
                rw [← p4] at cb2
                rw [← p5] at nb2
                obtain ⟨v1, v2⟩ := u3.2 (by omega)
                rw [v1, v2]
                have hn1 := hnv (k + 1)
                refine ⟨vp_in_nI (by omega) (by omega), pk_eq (z_sc c n (z_ok L w a) k).2.2 0 (fun y => yes (Or.inl y)) (fun y => ⟨vp_in_nI (by omega) (by omega), pk_lt (c (k + 1)) (z_sc c n (z_ok L w a) k).1 (fun y1 => yes (Or.inr (Or.inl y1))) (fun y1 => ⟨vp_in_nI (by omega) (by omega), pk_eq (c (k + 1)) (z_sc c n (z_ok L w a) k).1 (fun y2 => ⟨vp_in_nI (by omega) (by omega), vp_in_nI (by omega) (by omega), pk_le (z_sc c n (z_ok L w a) k).2.1 ((z_Z I W L T w q (a + (k + 1)) (z_nl q l)).2.1 + 1) (fun y3 => no (fun y4 => by omega)) (fun y3 => yes (Or.inr (Or.inr ⟨y2, by omega⟩)))⟩) (fun y2 => no (fun y4 => by omega))⟩)⟩)⟩
            have T151 : ∀ bb : Bool, bb = decide (a + (k + 1) = I) → B151 g4 (nI a) (nI l) (nI (6 * a + l)) (nI (z_wid W a (a + (k + 1)))) (nI (z_wid L a (a + (k + 1)))) (nI (k + 1)) (z_b bb) := by
              intro bb hbb
              refine b151 _ _ _ _ _ _ _ _ ?_
              rw [u0, B.2.2.2, nI_add, nI_1, pk_rem (a := l + 1) (d := q) (by omega) (by omega) (by omega), z_nl_mod y, z_l6, pk_mul, nI_add, e1]
              refine ⟨nI_ne0 (by omega) (by omega), nm_e (m_badness (by rw [u0]; exact B.2.2.1) hw (by omega) ⟨vp_in_nI (by omega) (by omega), nm_e ?_⟩)⟩
              rw [nI_clamp (n := 6 * (a + (k + 1)) + z_nl q l) (by omega), q1, nI_add, show nI q - 1 = nI (q - 1) from pk_sub (a := q) (b := 1) (by omega), hbb]
              have ec : c (k + 1) = z_bad w (z_wid W a (a + (k + 1))) (decide (a + (k + 1) = I)) + (if l + 1 < q then 0 else T (a + (k + 1))) + (z_Z I W L T w q (a + (k + 1)) (z_nl q l)).1 := hcv (k + 1)
              generalize z_bad w (z_wid W a (a + (k + 1))) (decide (a + (k + 1) = I)) = bd at ec ⊢
              refine pk_eq l (q - 1) (fun y1 => ?_) (fun y1 => ?_)
              · rw [if_neg (by omega)] at ec
                by_cases eI : a + (k + 1) = I
                · rw [decide_eq_true eI]
                  refine ⟨fun y2 => absurd y2 (by decide), fun _ => b225 _ _ _ _ _ _ _ _ _ (T226 _ _ ?_)⟩
                  rw [eI, hTI] at ec
                  rw [Int32.add_zero, eI, ec, Nat.add_zero]
                · rw [decide_eq_false eI]
                  refine ⟨fun _ => ⟨vp_in_nI (by omega) (by omega), ?_⟩, fun y2 => absurd rfl y2⟩
                  rw [nI_clamp (n := a + k) (by omega)]
                  have t := ht g4 (fun r24 => B226 g4 (nI a) (nI l) (nI (6 * a + l)) (nI (z_wid W a (a + (k + 1)))) (nI (z_wid L a (a + (k + 1)))) (nI (k + 1)) (nI (6 * (a + (k + 1)) + z_nl q l)) (nI (bd + (z_Z I W L T w q (a + (k + 1)) (z_nl q l)).1)) r24) (a + (k + 1)) (fun i _ h2 h3 h4 _ => u1 i h2 h3 h4) (fun j _ _ => by rw [u0]) (by omega) (by omega) (T226 _ _ (by rw [nI_add, ec]; exact congrArg nI (by omega)))
                  rw [show a + (k + 1) - 1 = a + k by omega] at t
                  exact t
              · rw [if_pos (by omega)] at ec
                refine b225 _ _ _ _ _ _ _ _ _ (T226 _ _ ?_)
                rw [Int32.add_zero, ec]
                exact congrArg nI (by omega)
            refine ⟨vp_in_nI (by omega) (by omega), nm_e ⟨vp_in_nI (by omega) (by omega), nm_e ?_⟩⟩
            exact pk_eq (a + (k + 1)) I (fun y1 => T151 true (by rw [decide_eq_true y1])) (fun y1 => T151 false (by rw [decide_eq_false y1]))
          rw [show z_wid W a (a + 0) = 0 by unfold z_wid; simp, show z_wid L a (a + 0) = 0 by unfold z_wid; simp] at inner
          exact inner (sx_u g3 24 (6 * a + l) 0) (fun k h1 h2 h3 => by rw [sx_u_n h3]; exact d1 k h1 h2 h3) (fun i hi => ⟨by rw [sx_u_n (by decide)], by rw [sx_u_n (by decide)], by rw [sx_u_s, pk_un hi]⟩) ⟨by rw [sx_u_s, pk_us]; rfl, fun z => absurd z (by omega)⟩
      exact loop g2 c1 c3 (fun l hl => absurd hl (by omega))
  have start : ∀ g2 : sx_F, (∀ k, k ≠ 22 → k ≠ 23 → k ≠ 24 → g2 k = g k) → (∀ l, l < 0 → g2 22 (6 * I + l) = 0 ∧ g2 23 (6 * I + l) = 0) → B2 g2 (nI 0) := by
    refine z_up (B := fun l0 => ∀ g2 : sx_F, (∀ k, k ≠ 22 → k ≠ 23 → k ≠ 24 → g2 k = g k) → (∀ l, l < l0 → g2 22 (6 * I + l) = 0 ∧ g2 23 (6 * I + l) = 0) → B2 g2 (nI l0)) q (fun l0 hl0 ihl => ?_)
    intro g2 c1 c3
    refine b2 _ _ ?_
    rw [c1 0 (by decide) (by decide) (by decide), B.2.2.2, B.1]
    refine pk_le q l0 (fun y => nm_e ?_) (fun y => ?_)
    · refine rows I g2 (Nat.le_refl _) c1 (fun e l he he2 hl => ?_) _ ?_
      · have ee : e = I := by omega
        rw [ee, z_Z_end]
        obtain ⟨v1, v2⟩ := c3 l (by omega)
        exact ⟨v1, v2, fun z => by omega⟩
      · by_cases e0 : I = 0
        · exact Or.inl ⟨e0, by rw [e0]; decide⟩
        · exact Or.inr ⟨by omega, pk_sub (a := I) (b := 1) (by omega)⟩
    · rw [show (6 : Int32) * nI I + nI l0 = nI (6 * I + l0) by rw [z_l6, pk_mul, nI_add], nI_clamp (n := 6 * I + l0) (by omega)]
      refine ⟨vp_in_nI (by omega) (by omega), nm_e ?_⟩
      rw [sx_u_n (by decide : (0 : Nat) ≠ 22), c1 0 (by decide) (by decide) (by decide), B.1, show (6 : Int32) * nI I + nI l0 = nI (6 * I + l0) by rw [z_l6, pk_mul, nI_add], nI_clamp (n := 6 * I + l0) (by omega)]
      refine ⟨vp_in_nI (by omega) (by omega), nm_e (nm_e ?_)⟩
      rw [nI_1]
      refine ihl y _ (fun k h1 h2 h3 => by rw [sx_u_n h2, sx_u_n h1]; exact c1 k h1 h2 h3) (fun l hl => ?_)
      simp (disch := omega) only [sx_u_n, sx_u_s]
      by_cases el : l = l0
      · rw [el, pk_us, pk_us]; exact ⟨rfl, rfl⟩
      · rw [pk_un (by omega), pk_un (by omega)]; exact c3 l (by omega)
  exact start g (fun _ _ _ _ => rfl) (fun l hl => absurd hl (by omega))
end
section
/-- a book broken, in the class -/
theorem x_breakBook {t : Nat} {f g : sx_F} {S : z_S} {bk : Nat} {Q : sx_F → Prop} {X : String → sx_F → Prop} (R : z_R t f g S) (hbk : bk ≤ 5) (h : ∀ (f' : sx_F) (w q : Nat), 80 ≤ w → w ≤ 500 → 1 ≤ q → q ≤ 6 → g 0 6 = nI w → g 0 7 = nI q → z_fx f f' → z_X f' S → f' 11 0 = 0 → f' 12 0 = 0 → z_G f' S bk (S 0 0) → z_Bk f' (z_it S bk (S 0 0)) (z_IW S bk) (z_IL S bk) (z_IT S bk) w q → z_Rw f' (z_it S bk (S 0 0)) (z_IW S bk) (z_IL S bk) (z_IT S bk) w q 0 → f' 19 7 = nI (z_Z (z_it S bk (S 0 0)) (z_IW S bk) (z_IL S bk) (z_IT S bk) w q 0 0).2.1 → f' 19 8 = nI (z_tn (z_Z (z_it S bk (S 0 0)) (z_IW S bk) (z_IL S bk) (z_IT S bk) w q) (z_IT S bk) q (z_Z (z_it S bk (S 0 0)) (z_IW S bk) (z_IL S bk) (z_IT S bk) w q 0 0).2.1) → z_Ln f' (z_Z (z_it S bk (S 0 0)) (z_IW S bk) (z_IL S bk) (z_IT S bk) w q) q (z_Z (z_it S bk (S 0 0)) (z_IW S bk) (z_IL S bk) (z_IT S bk) w q 0 0).2.1 → f' 63 (z_Z (z_it S bk (S 0 0)) (z_IW S bk) (z_IL S bk) (z_IT S bk) w q 0 0).2.1 = nI (z_it S bk (S 0 0)) → Q f') : P_X6_breakBook f (nI bk) Q X := by
  obtain ⟨w, q, p1, p2, p3, p4, p5, p6, p7, p8, p11, p12, p17, p18⟩ := R.2.2.2.2.2.1
  have W := R.2.2.1
  have hn := W.1
  have hitn : z_it S bk (S 0 0) ≤ S 0 0 := z_cnt_le _
  refine x_needIndex_t (n := 6) (by omega) (by omega) (x_gather R.1 W hbk p11 p12 p17 p18 (fun f1 a1 a2 a3 a4 a5 => ?_))
  have Z1 : z_X f1 S := z_Xc R.1 (a1 1 (by decide)) (a1 2 (by decide)) (a1 5 (by decide)) (a1 6 (by decide)) (a1 7 (by decide))
  refine x_breakLines Z1 W hbk a4 a5 p2 p3 p4 (by rw [a1 19 (by decide)]; exact p5) (by rw [a1 19 (by decide)]; exact p7) (fun f2 b1 b2 b3 => ?_)
  refine x_setLines b2 b3 p2 (by omega) p3 p4 (fun j hj => (z_IW_b W hbk hj).1) (fun j => z_IT_le) (fun f3 c1 c2 c3 c4 c5 c6 => ?_)
  have a0 := a5.2.2.2.1 0 (by omega)
  have fx : z_fx f f3 := by
    refine ⟨fun k hk => by rw [c1 k (by omega) (by omega) (by omega), b1 k (by omega)]; exact a1 k (by omega), fun k j hk => ?_⟩
    rcases hk with ⟨rfl, hk⟩ | ⟨rfl, rfl | rfl | rfl | rfl⟩
    · rw [c2 j (by omega) (by omega), b1 19 (by omega), a1 19 (by omega)]
    · rw [c1 11 (by decide) (by decide) (by decide), b1 11 (by omega), a2, p11]
    · rw [c1 12 (by decide) (by decide) (by decide), b1 12 (by omega), a3, p12]
    · rw [c1 17 (by decide) (by decide) (by decide), b1 17 (by omega), p17]; exact a0.1
    · rw [c1 18 (by decide) (by decide) (by decide), b1 18 (by omega), p18]; exact a0.2
  have lo : ∀ k, k ≤ 18 → f3 k = f1 k := fun k hk => by rw [c1 k (by omega) (by omega) (by omega), b1 k (by omega)]
  refine h f3 w q p1 p2 p3 p4 p6 p8 fx (R.1.fx fx) (by rw [lo 11 (by omega)]; exact a2) (by rw [lo 12 (by omega)]; exact a3) ?_ ?_ ?_ c3 c4 c5 c6
  · unfold z_G at a5 ⊢
    rw [lo 8 (by omega), lo 14 (by omega), lo 15 (by omega), lo 16 (by omega), lo 17 (by omega), lo 18 (by omega)]
    exact a5
  · unfold z_Bk at b2 ⊢
    rw [c1 8 (by decide) (by decide) (by decide), c1 17 (by decide) (by decide) (by decide), c1 18 (by decide) (by decide) (by decide), c1 20 (by decide) (by decide) (by decide), c2 1 (by decide) (by decide), c2 2 (by decide) (by decide)]
    exact b2
  · intro e l he he2 hl
    rw [c1 _ (by omega) (by omega) (by omega), c1 _ (by omega) (by omega) (by omega), c1 _ (by omega) (by omega) (by omega)]
    exact b3 e l he he2 hl
end
section
/-- a book laid out, in the reference -/
theorem m_lays {g : sx_F} {S : z_S} {bk w q : Nat} {Q : sx_F → Prop} (M : z_M g S) (W : z_W S) (hbk : bk ≤ 5) (hw : w ≤ 500) (hq1 : 1 ≤ q) (hq : q ≤ 6) (p1 : g 0 6 = nI w) (p2 : g 0 7 = nI q) (h : ∀ g' : sx_F, z_gx g g' → (∀ j, j ≠ 20 → j ≠ 31 → j ≠ 32 → g' 0 j = g 0 j) → z_H g' S bk (S 0 0) → z_Y g' S bk (z_it S bk (S 0 0)) → z_Rm g' (z_it S bk (S 0 0)) (z_IW S bk) (z_IL S bk) (z_IT S bk) w q 0 → g' 0 31 = nI (z_Z (z_it S bk (S 0 0)) (z_IW S bk) (z_IL S bk) (z_IT S bk) w q 0 0).2.1 → g' 0 32 = nI (z_tn (z_Z (z_it S bk (S 0 0)) (z_IW S bk) (z_IL S bk) (z_IT S bk) w q) (z_IT S bk) q (z_Z (z_it S bk (S 0 0)) (z_IW S bk) (z_IL S bk) (z_IT S bk) w q 0 0).2.1) → (∀ l j, l < (z_Z (z_it S bk (S 0 0)) (z_IW S bk) (z_IL S bk) (z_IT S bk) w q 0 0).2.1 → z_ps (z_Z (z_it S bk (S 0 0)) (z_IW S bk) (z_IL S bk) (z_IT S bk) w q) q l ≤ j → j < z_ps (z_Z (z_it S bk (S 0 0)) (z_IW S bk) (z_IL S bk) (z_IT S bk) w q) q (l + 1) → g' 25 j = nI l) → Q g') : P_X7_lays g (nI bk) Q := by
  have hn := W.1
  have hitn : z_it S bk (S 0 0) ≤ S 0 0 := z_cnt_le _
  refine m_laysItems M W hbk (fun g1 a1 a2 a3 => ?_)
  have M1 : z_M g1 S := M.gx (z_gx_items a1 a2)
  refine m_laysSprings M1 W hbk a3 (fun g2 b1 b2 => ?_)
  have hit : ∀ j, j < z_it S bk (S 0 0) → ∃ x, x < S 0 0 ∧ z_new S bk x = true ∧ z_it S bk x = j ∧ z_xb S bk j = x := fun j hj => by
    obtain ⟨x, hx, hnx, hjx⟩ := z_cnt_ex (p := z_new S bk) (S 0 0) j hj
    have hjx : z_it S bk x = j := hjx
    have ex := z_xb_eq hx hnx
    rw [hjx] at ex
    exact ⟨x, hx, hnx, hjx, ex⟩
  refine m_breaks (W := z_IW S bk) (L := z_IL S bk) (T := z_IT S bk) (w := w) (q := q) (I := z_it S bk (S 0 0)) ⟨by rw [b1 0 (by decide)]; exact a3.1, fun j hj => ?_, by rw [b1 0 (by decide), a2 6 (by decide)]; exact p1, by rw [b1 0 (by decide), a2 7 (by decide)]; exact p2⟩ (by omega) hw hq1 hq (fun j hj => (z_IW_b W hbk hj).1) (fun j hj => (z_IW_b W hbk hj).2.2) (fun j => z_IT_le) (if_neg (Nat.lt_irrefl _)) (fun g' QQ e c1 c2 he he2 hQ => ?_) (fun g' c1 c2 c3 c4 c5 c6 => ?_)
  · obtain ⟨x, hx, hnx, hjx, ex⟩ := hit j hj
    have y := (b2.2 x hx hnx (by omega)).2
    rw [hjx] at y
    unfold z_IW z_IL
    rw [ex]
    exact y
  · obtain ⟨x, hx, hnx, hjx, ex⟩ := hit e he2
    have x0 : x ≠ 0 := fun z => by rw [z] at hjx; exact absurd hjx (by show (0 : Nat) ≠ e; omega)
    have hl := a3.2.2 (x - 1) (by omega) (Or.inr (by rw [show x - 1 + 1 = x by omega]; exact hnx))
    rw [show x - 1 + 1 = x by omega, hjx] at hl
    rw [c1 14 (by decide) (by decide) (by decide) (by decide) (by decide), b1 14 (by decide), hl]
    have M' : z_M g' S := by
      unfold z_M at M1 ⊢
      rw [c2 5 (by decide) (by decide), b1 0 (by decide), c1 1 (by decide) (by decide) (by decide) (by decide) (by decide), c1 2 (by decide) (by decide) (by decide) (by decide) (by decide), c1 3 (by decide) (by decide) (by decide) (by decide) (by decide), c1 4 (by decide) (by decide) (by decide) (by decide) (by decide), b1 1 (by decide), b1 2 (by decide), b1 3 (by decide), b1 4 (by decide)]
      exact M1
    refine m_turnCost M' W hbk (by omega) ?_
    rw [show x - 1 + 1 = x by omega]
    unfold z_IT at hQ
    rw [if_pos he2, ex] at hQ
    exact hQ
  · refine h g' ⟨fun k hk => ?_, fun j hj => ?_⟩ (fun j h1 h2 h3 => ?_) ?_ ?_ c3 c4 c5 c6
    · rw [c1 k (by omega) (by omega) (by omega) (by omega) (by omega), b1 k (by omega)]; exact a1 k (Or.inl hk)
    · rw [c2 j (by omega) (by omega), b1 0 (by decide)]; exact a2 j (by omega)
    · rw [c2 j h2 h3, b1 0 (by decide)]; exact a2 j h1
    · unfold z_H at a3 ⊢
      rw [c2 20 (by decide) (by decide), b1 0 (by decide), c1 13 (by decide) (by decide) (by decide) (by decide) (by decide), c1 14 (by decide) (by decide) (by decide) (by decide) (by decide), c1 15 (by decide) (by decide) (by decide) (by decide) (by decide), b1 13 (by decide), b1 14 (by decide), b1 15 (by decide)]
      exact a3
    · unfold z_Y z_F1 at b2 ⊢
      rw [c1 16 (by decide) (by decide) (by decide) (by decide) (by decide), c1 17 (by decide) (by decide) (by decide) (by decide) (by decide), c1 18 (by decide) (by decide) (by decide) (by decide) (by decide), c1 19 (by decide) (by decide) (by decide) (by decide) (by decide), c1 20 (by decide) (by decide) (by decide) (by decide) (by decide), c1 21 (by decide) (by decide) (by decide) (by decide) (by decide)]
      exact b2
end
section
theorem k_lines {t : Nat} {f g : sx_F} {o : Nat → Int64} {x : Int32} (h : z_I t f g) : P_case_lines f g o x (z_I (t + 1)) := by
  have hI := h
  obtain ⟨S, R⟩ := h
  unfold P_case_lines P_L_lines P_X6_lines
  have bad : ∀ QQ : Int32 → sx_F → Prop, (x < 0 ∨ nI 6 ≤ x) → QQ 0 (sx_u g 0 33 1) → P_X7_lines g x QQ := by
    intro QQ hb q
    refine m_isBook ?_
    rw [z_no hb]
    exact m_goes_1 ⟨fun _ => q, fun c => absurd rfl c⟩
  rcases pk_ix x (n := 6) (by omega) with hx | hx | ⟨bk, hbk, rfl⟩
  · exact x_needIndex_f (Or.inl hx) ⟨rfl, bad _ (Or.inl hx) (z_finE z_33 (by decide) (hI.go _))⟩
  · exact x_needIndex_f (Or.inr hx) ⟨rfl, bad _ (Or.inr hx) (z_finE z_33 (by decide) (hI.go _))⟩
  refine x_breakBook R (by omega) (fun f' w q p1 p2 p3 p4 p5 p6 fx _ _ _ _ _ _ u1 _ _ _ => nm_e ?_)
  refine m_isBook ?_
  rw [z_yes hbk (by omega)]
  refine m_goes_0 ⟨fun c => absurd c (by decide), fun _ => m_lays (R.2.1.gx (z_gx.go g 0)) R.2.2.1 (by omega) p2 p3 p4 (by rw [sx_u_s, pk_un (by decide)]; exact p5) (by rw [sx_u_s, pk_un (by decide)]; exact p6) (fun g' gx gj _ _ _ v1 _ _ => z_fin0 (by rw [gj 33 (by decide) (by decide) (by decide)]; exact z_33) ?_ (hI.same fx ((z_gx.go g 0).trans gx)))⟩
  rw [u1, v1]
theorem k_turns {t : Nat} {f g : sx_F} {o : Nat → Int64} {x : Int32} (h : z_I t f g) : P_case_turns f g o x (z_I (t + 1)) := by
  have hI := h
  obtain ⟨S, R⟩ := h
  unfold P_case_turns P_L_turns P_X6_turns
  have bad : ∀ QQ : Int32 → sx_F → Prop, (x < 0 ∨ nI 6 ≤ x) → QQ 0 (sx_u g 0 33 1) → P_X7_turns g x QQ := by
    intro QQ hb q
    refine m_isBook ?_
    rw [z_no hb]
    exact m_goes_1 ⟨fun _ => q, fun c => absurd rfl c⟩
  rcases pk_ix x (n := 6) (by omega) with hx | hx | ⟨bk, hbk, rfl⟩
  · exact x_needIndex_f (Or.inl hx) ⟨rfl, bad _ (Or.inl hx) (z_finE z_33 (by decide) (hI.go _))⟩
  · exact x_needIndex_f (Or.inr hx) ⟨rfl, bad _ (Or.inr hx) (z_finE z_33 (by decide) (hI.go _))⟩
  refine x_breakBook R (by omega) (fun f' w q p1 p2 p3 p4 p5 p6 fx _ _ _ _ _ _ _ u2 _ _ => nm_e ?_)
  refine m_isBook ?_
  rw [z_yes hbk (by omega)]
  refine m_goes_0 ⟨fun c => absurd c (by decide), fun _ => m_lays (R.2.1.gx (z_gx.go g 0)) R.2.2.1 (by omega) p2 p3 p4 (by rw [sx_u_s, pk_un (by decide)]; exact p5) (by rw [sx_u_s, pk_un (by decide)]; exact p6) (fun g' gx gj _ _ _ _ v2 _ => z_fin0 (by rw [gj 33 (by decide) (by decide) (by decide)]; exact z_33) ?_ (hI.same fx ((z_gx.go g 0).trans gx)))⟩
  rw [u2, v2]
theorem k_cost {t : Nat} {f g : sx_F} {o : Nat → Int64} {x : Int32} (h : z_I t f g) : P_case_cost f g o x (z_I (t + 1)) := by
  have hI := h
  obtain ⟨S, R⟩ := h
  unfold P_case_cost P_L_cost P_X6_cost
  have bad : ∀ QQ : Int32 → sx_F → Prop, (x < 0 ∨ nI 6 ≤ x) → QQ 0 (sx_u g 0 33 1) → P_X7_cost g x QQ := by
    intro QQ hb q
    refine m_isBook ?_
    rw [z_no hb]
    exact m_goes_1 ⟨fun _ => q, fun c => absurd rfl c⟩
  rcases pk_ix x (n := 6) (by omega) with hx | hx | ⟨bk, hbk, rfl⟩
  · exact x_needIndex_f (Or.inl hx) ⟨rfl, bad _ (Or.inl hx) (z_finE z_33 (by decide) (hI.go _))⟩
  · exact x_needIndex_f (Or.inr hx) ⟨rfl, bad _ (Or.inr hx) (z_finE z_33 (by decide) (hI.go _))⟩
  refine x_breakBook R (by omega) (fun f' w q p1 p2 p3 p4 p5 p6 fx _ _ _ _ _ rw0 _ _ _ _ => ⟨by unfold vp_in; decide, nm_e ⟨by unfold vp_in; decide, nm_e ?_⟩⟩)
  rw [sb_cl0, show f' (22 + 0) 0 = _ from (rw0 0 0 (Nat.le_refl _) (Nat.zero_le _) (by omega)).1]
  refine m_isBook ?_
  rw [z_yes hbk (by omega)]
  refine m_goes_0 ⟨fun c => absurd c (by decide), fun _ => m_lays (R.2.1.gx (z_gx.go g 0)) R.2.2.1 (by omega) p2 p3 p4 (by rw [sx_u_s, pk_un (by decide)]; exact p5) (by rw [sx_u_s, pk_un (by decide)]; exact p6) (fun g' gx gj gh _ rm _ _ _ => ?_)⟩
  have e22 := (rm 0 0 (Nat.le_refl _) (Nat.zero_le _) (by omega)).1
  rw [gh.1, sb_cl0]
  refine ⟨fun y => z_fin0 (by rw [gj 33 (by decide) (by decide) (by decide)]; exact z_33) ?_ (hI.same fx ((z_gx.go g 0).trans gx)), fun y => ⟨by unfold vp_in; decide, z_fin0 (by rw [gj 33 (by decide) (by decide) (by decide)]; exact z_33) ?_ (hI.same fx ((z_gx.go g 0).trans gx))⟩⟩
  · have i0 : z_it S bk (S 0 0) = 0 := by
      have hle : z_it S bk (S 0 0) ≤ S 0 0 := z_cnt_le _
      have hn := R.2.2.1.1
      exact (nI_eq (a := z_it S bk (S 0 0)) (b := 0) (by omega) (by omega)).mp y
    rw [i0, z_Z_end]; rfl
  · rw [show g' 22 0 = _ from e22]
end
