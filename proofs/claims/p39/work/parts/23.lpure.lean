def P_L_length (f : sx_F) (a : sx_F) (o : sl_O) (x1 : Int32) (x2 : Int32) (Q : Int32 → Prop) : Prop :=
  (vp_in x1 30 ∧ Q (((sl_shr (o 0 x1.toNatClampNeg) (8 * x2)) &&& (31 : Int64)).toInt32))
def P_L_pitch (f : sx_F) (a : sx_F) (o : sl_O) (x1 : Int32) (x2 : Int32) (Q : Int32 → Prop) : Prop :=
  (vp_in x1 30 ∧ Q (((sl_shr (o 0 x1.toNatClampNeg) ((8 * x2) + 5)) &&& (7 : Int64)).toInt32))
def P_L_begins (f : sx_F) (a : sx_F) (o : sl_O) (x3 : Int32) (x4 : Int32) (x5 : Int32) (Q : Int32 → Prop) : Prop :=
  ∀ (B18 : Int32 → Int32 → Int32 → Int32 → Prop),
  ∀ (B55 : Int32 → Int32 → Int32 → Int32 → Prop),
  (∀ (v6 : Int32) (v7 : Int32) (v8 : Int32) (v9 : Int32), (vp_in v6 30 ∧ (((a 1 v6.toNatClampNeg) ≤ v9 → ((v7 = x5 → (vp_in x4 6 ∧ (((a 3 x4.toNatClampNeg) ≤ v7 → Q v8) ∧ (¬ (a 3 x4.toNatClampNeg) ≤ v7 → Q 1)))) ∧ (¬ v7 = x5 → Q v8))) ∧ (¬ (a 1 v6.toNatClampNeg) ≤ v9 → ((v7 = x5 → (P_L_pitch f a o v6 v9 (fun r5 => ((r5 ≤ 0 → B55 v6 v7 v9 1) ∧ (¬ r5 ≤ 0 → B55 v6 v7 v9 2))))) ∧ (¬ v7 = x5 → B55 v6 v7 v9 v8))))) → B18 v6 v7 v8 v9) →
  (∀ (v6 : Int32) (v7 : Int32) (v9 : Int32) (s0 : Int32), (P_L_length f a o v6 v9 (fun r10 => (∀ y14 : Int32, y14 = (v7 + r10) → (∀ y15 : Int32, y15 = v9 + 1 → B18 v6 y14 s0 y15)))) → B55 v6 v7 v9 s0) →
  (∀ y16 : Int32, y16 = ((6 * x3) + x4) → B18 y16 0 0 0)
def P_L_isSilent (f : sx_F) (a : sx_F) (o : sl_O) (x2 : Int32) (x3 : Int32) (Q : Int32 → Prop) : Prop :=
  ∀ (B6 : Int32 → Int32 → Prop),
  ∀ (B43 : Int32 → Prop),
  ∀ (B44 : Int32 → Int32 → Prop),
  (∀ (v4 : Int32) (v5 : Int32), (vp_in ((6 * x2) + x3) 30 ∧ (((a 1 ((6 * x2) + x3).toNatClampNeg) ≤ v5 → ((v4 = 0 ∨ v4 = 1) ∧ Q v4)) ∧ (¬ (a 1 ((6 * x2) + x3).toNatClampNeg) ≤ v5 → ((v4 = 0 → B43 v5) ∧ (¬ v4 = 0 → (P_L_pitch f a o ((6 * x2) + x3) v5 (fun r3 => ((r3 = 0 → B44 v5 1) ∧ (¬ r3 = 0 → B43 v5))))))))) → B6 v4 v5) →
  (∀ (v5 : Int32), B44 v5 0 → B43 v5) →
  (∀ (v5 : Int32) (s0 : Int32), (∀ y8 : Int32, y8 = v5 + 1 → B6 s0 y8) → B44 v5 s0) →
  B6 1 0
def P_L_begun (f : sx_F) (a : sx_F) (o : sl_O) (x3 : Int32) (x4 : Int32) (x5 : Int32) (Q : Int32 → Prop) : Prop :=
  ∀ (B11 : Int32 → Prop),
  ∀ (B19 : Int32 → Int32 → Int32 → Prop),
  ∀ (B36 : Int32 → Int32 → Int32 → Prop),
  ∀ (B52 : Int32 → Int32 → Int32 → Int32 → Prop),
  ∀ (B66 : Int32 → Int32 → Int32 → Int32 → Prop),
  ∀ (B81 : Int32 → Int32 → Int32 → Int32 → Prop),
  (∀ (s0 : Int32), B19 s0 0 0 → B11 s0) →
  (∀ (v6 : Int32) (v7 : Int32) (v8 : Int32), ((5 ≤ v8 → Q (v6 + v7)) ∧ (¬ 5 ≤ v8 → ((x3 = 5 → B36 v6 v7 v8) ∧ (¬ x3 = 5 → ((x3 = v8 → B36 v6 v7 v8) ∧ (¬ x3 = v8 → B52 v6 v7 v8 0)))))) → B19 v6 v7 v8) →
  (∀ (v6 : Int32) (v7 : Int32) (v8 : Int32), (P_L_begins f a o v8 x4 x5 (fun r4 => B52 v6 v7 v8 r4)) → B36 v6 v7 v8) →
  (∀ (v6 : Int32) (v7 : Int32) (v8 : Int32) (s0 : Int32), ((s0 ≤ 0 → B66 v7 v8 s0 v6) ∧ (¬ s0 ≤ 0 → B66 v7 v8 s0 10)) → B52 v6 v7 v8 s0) →
  (∀ (v7 : Int32) (v8 : Int32) (v9 : Int32) (s0 : Int32), ((v9 = 2 → B81 s0 v8 v7 1) ∧ (¬ v9 = 2 → B81 s0 v8 v7 0)) → B66 v7 v8 v9 s0) →
  (∀ (v6 : Int32) (v8 : Int32) (s0 : Int32) (s1 : Int32), (∀ y10 : Int32, y10 = (s0 + s1) → (∀ y11 : Int32, y11 = v8 + 1 → B19 v6 y10 y11)) → B81 v6 v8 s0 s1) →
  ((x5 = 0 → B11 10) ∧ (¬ x5 = 0 → B11 0))
def P_L_spring (f : sx_F) (a : sx_F) (o : sl_O) (x3 : Int32) (x4 : Int32) (x5 : Int32) (Q : Int32 → Prop) : Prop :=
  ∀ (B14 : Int32 → Prop),
  ∀ (B43 : Int32 → Prop),
  ∀ (B54 : Int32 → Int32 → Prop),
  ∀ (B106 : Int32 → Int32 → Int32 → Prop),
  (∀ (v6 : Int32), (vp_in x4 6 ∧ (((a 3 x4.toNatClampNeg) ≤ v6 → B43 v6) ∧ (¬ (a 3 x4.toNatClampNeg) ≤ v6 → (P_L_begun f a o x3 x4 v6 (fun r2 => ((r2 = 0 → (∀ y7 : Int32, y7 = v6 + 1 → B14 y7)) ∧ (¬ r2 = 0 → B43 v6))))))) → B14 v6) →
  (∀ (v6 : Int32), (∀ y8 : Int32, y8 = (v6 - x5) → B54 6 y8) → B43 v6) →
  (∀ (v7 : Int32) (v8 : Int32), ((v8 ≤ 1 → (P_L_begun f a o x3 x4 x5 (fun r10 => (∀ y14 : Int32, y14 = ((4 + r10) - 10) → ((v7 ≤ y14 → B106 y14 100 y14) ∧ (¬ v7 ≤ y14 → B106 y14 100 v7)))))) ∧ (¬ v8 ≤ 1 → (∀ y16 : Int32, y16 = v7 + 3 → (∀ y17 : Int32, y17 = (v8 / 2) → B54 y16 y17)))) → B54 v7 v8) →
  (∀ (v8 : Int32) (s0 : Int32) (s1 : Int32), Q ((s0 * s1) + v8) → B106 v8 s0 s1) →
  ((0 ≤ x3 → (∀ y19 : Int32, y19 = (x5 + 1) → B14 y19)) ∧ (¬ 0 ≤ x3 → Q 2416))
def P_L_isSpring (f : sx_F) (a : sx_F) (o : sl_O) (x3 : Int32) (x4 : Int32) (x5 : Int32) (Q : Int32 → Prop) : Prop :=
  ((0 ≤ x3 → (vp_in x4 6 ∧ (((a 3 x4.toNatClampNeg) ≤ x5 → Q 0) ∧ (¬ (a 3 x4.toNatClampNeg) ≤ x5 → (P_L_begun f a o x3 x4 x5 (fun r3 => ((r3 ≤ 0 → Q 0) ∧ (¬ r3 ≤ 0 → Q 1)))))))) ∧ (¬ 0 ≤ x3 → ((x5 = 0 → Q 1) ∧ (¬ x5 = 0 → Q 0))))
def P_L_cue (f : sx_F) (a : sx_F) (o : sl_O) (x2 : Int32) (x3 : Int32) (Q : Int32 → Prop) : Prop :=
  ∀ (B6 : Int32 → Int32 → Prop),
  ∀ (B32 : Int32 → Int32 → Prop),
  ∀ (B33 : Int32 → Int32 → Int32 → Prop),
  ∀ (B66 : Int32 → Prop),
  ∀ (B71 : Int32 → Int32 → Prop),
  ∀ (B73 : Int32 → Int32 → Prop),
  (∀ (v4 : Int32) (v5 : Int32), ((v5 < 0 → Q v4) ∧ (¬ v5 < 0 → ((v5 = x2 → B32 v4 v5) ∧ (¬ v5 = x2 → (P_L_isSilent f a o v5 x3 (fun r3 => ((r3 = 0 → B33 v4 v5 1) ∧ (¬ r3 = 0 → B32 v4 v5)))))))) → B6 v4 v5) →
  (∀ (v4 : Int32) (v5 : Int32), B33 v4 v5 0 → B32 v4 v5) →
  (∀ (v4 : Int32) (v5 : Int32) (s0 : Int32), ((s0 = 0 → B71 v4 v5) ∧ (¬ s0 = 0 → ((v4 < 0 → B66 v5) ∧ (¬ v4 < 0 → (vp_in ((6 * v5) + x3) 30 ∧ (vp_in ((6 * v4) + x3) 30 ∧ (((a 1 ((6 * v5) + x3).toNatClampNeg) < (a 1 ((6 * v4) + x3).toNatClampNeg) → B71 v4 v5) ∧ (¬ (a 1 ((6 * v5) + x3).toNatClampNeg) < (a 1 ((6 * v4) + x3).toNatClampNeg) → B66 v5)))))))) → B33 v4 v5 s0) →
  (∀ (v5 : Int32), B73 v5 v5 → B66 v5) →
  (∀ (v4 : Int32) (v5 : Int32), B73 v5 v4 → B71 v4 v5) →
  (∀ (v5 : Int32) (s0 : Int32), (∀ y11 : Int32, y11 = v5 + (-1) → B6 s0 y11) → B73 v5 s0) →
  B6 (-1) 4
def P_L_items (f : sx_F) (a : sx_F) (o : sl_O) (x4 : Int32) (Q : Int32 → sx_F → sx_F → sl_O → Prop) : Prop :=
  ∀ (B9 : sx_F → sx_F → sl_O → Int32 → Int32 → Int32 → Prop),
  ∀ (B47 : sx_F → sx_F → sl_O → Int32 → Int32 → Int32 → Prop),
  ∀ (B48 : sx_F → sx_F → sl_O → Int32 → Int32 → Int32 → Int32 → Prop),
  ∀ (B89 : sx_F → sx_F → sl_O → Int32 → Int32 → Int32 → Prop),
  ∀ (B90 : sx_F → sx_F → sl_O → Int32 → Int32 → Int32 → Int32 → Prop),
  ∀ (B133 : sx_F → sx_F → sl_O → Int32 → Int32 → Int32 → Int32 → Int32 → Prop),
  ∀ (B147 : sx_F → sx_F → sl_O → Int32 → Int32 → Int32 → Prop),
  ∀ (B190 : sx_F → sx_F → sl_O → Int32 → Int32 → Prop),
  ∀ (B232 : sx_F → sx_F → sl_O → Int32 → Int32 → Prop),
  ∀ (B235 : sx_F → sx_F → sl_O → Int32 → Int32 → Int32 → Prop),
  ∀ (B244 : sx_F → sx_F → sl_O → Int32 → Int32 → Prop),
  ∀ (B296 : sx_F → sx_F → sl_O → Int32 → Int32 → Int32 → Int32 → Int32 → Prop),
  ∀ (B336 : sx_F → sx_F → sl_O → Int32 → Int32 → Int32 → Int32 → Int32 → Int32 → Prop),
  (∀ (f : sx_F) (a : sx_F) (o : sl_O) (v6 : Int32) (v7 : Int32) (v8 : Int32), (vp_in 0 5 ∧ (((a 7 (0 : Int32).toNatClampNeg) < v8 → B244 f a o v6 0) ∧ (¬ (a 7 (0 : Int32).toNatClampNeg) < v8 → (vp_in 0 5 ∧ (((a 7 (0 : Int32).toNatClampNeg) ≤ v8 → B47 f a o v6 v7 v8) ∧ (¬ (a 7 (0 : Int32).toNatClampNeg) ≤ v8 → ((5 ≤ x4 → B47 f a o v6 v7 v8) ∧ (¬ 5 ≤ x4 → (P_L_isSilent f a o x4 v8 (fun r4 => ((r4 = 0 → B47 f a o v6 v7 v8) ∧ (¬ r4 = 0 → B48 f a o v6 v7 v8 1)))))))))))) → B9 f a o v6 v7 v8) →
  (∀ (f : sx_F) (a : sx_F) (o : sl_O) (v6 : Int32) (v7 : Int32) (v8 : Int32), B48 f a o v6 v7 v8 0 → B47 f a o v6 v7 v8) →
  (∀ (f : sx_F) (a : sx_F) (o : sl_O) (v6 : Int32) (v7 : Int32) (v8 : Int32) (s0 : Int32), ((s0 = 0 → ((v7 ≤ 2 → B89 f a o v6 v7 v8) ∧ (¬ v7 ≤ 2 → (vp_in 0 5 ∧ (((a 7 (0 : Int32).toNatClampNeg) ≤ v8 → B89 f a o v6 v7 v8) ∧ (¬ (a 7 (0 : Int32).toNatClampNeg) ≤ v8 → (P_L_cue f a o x4 (v8 - 1) (fun r12 => B90 f a o v6 v7 v8 r12)))))))) ∧ (¬ s0 = 0 → (∀ y16 : Int32, y16 = v7 + 1 → B235 f a o v6 y16 v8))) → B48 f a o v6 v7 v8 s0) →
  (∀ (f : sx_F) (a : sx_F) (o : sl_O) (v6 : Int32) (v7 : Int32) (v8 : Int32), B90 f a o v6 v7 v8 (-1) → B89 f a o v6 v7 v8) →
  (∀ (f : sx_F) (a : sx_F) (o : sl_O) (v6 : Int32) (v7 : Int32) (v8 : Int32) (s0 : Int32), ((v7 ≤ 0 → B147 f a o v6 v8 s0) ∧ (¬ v7 ≤ 0 → (vp_in (5 * v6) 30 ∧ ∀ a18 : sx_F, a18 = sx_u a 8 (5 * v6).toNatClampNeg (v8 - v7) → ((0 ≤ s0 → B133 f a18 o v6 v8 s0 ((5 * v6) + 1) (v8 - 2)) ∧ (¬ 0 ≤ s0 → B133 f a18 o v6 v8 s0 ((5 * v6) + 1) (v8 - 1)))))) → B90 f a o v6 v7 v8 s0) →
  (∀ (f : sx_F) (a : sx_F) (o : sl_O) (v6 : Int32) (v8 : Int32) (v10 : Int32) (s1 : Int32) (s2 : Int32), (vp_in s1 30 ∧ ∀ a20 : sx_F, a20 = sx_u a 8 s1.toNatClampNeg s2 → (vp_in ((5 * v6) + 2) 30 ∧ ∀ a21 : sx_F, a21 = sx_u a20 8 ((5 * v6) + 2).toNatClampNeg (-1) → (∀ y22 : Int32, y22 = v6 + 1 → B147 f a21 o y22 v8 v10))) → B133 f a o v6 v8 v10 s1 s2) →
  (∀ (f : sx_F) (a : sx_F) (o : sl_O) (v6 : Int32) (v8 : Int32) (v10 : Int32), ((v10 < 0 → B190 f a o v6 v8) ∧ (¬ v10 < 0 → (vp_in (5 * v6) 30 ∧ ∀ a24 : sx_F, a24 = sx_u a 8 (5 * v6).toNatClampNeg (v8 - 1) → (vp_in ((5 * v6) + 1) 30 ∧ ∀ a25 : sx_F, a25 = sx_u a24 8 ((5 * v6) + 1).toNatClampNeg (v8 - 1) → (vp_in ((5 * v6) + 2) 30 ∧ ∀ a26 : sx_F, a26 = sx_u a25 8 ((5 * v6) + 2).toNatClampNeg v10 → (∀ y27 : Int32, y27 = v6 + 1 → B190 f a26 o y27 v8)))))) → B147 f a o v6 v8 v10) →
  (∀ (f : sx_F) (a : sx_F) (o : sl_O) (v6 : Int32) (v8 : Int32), (vp_in 0 5 ∧ (((a 7 (0 : Int32).toNatClampNeg) ≤ v8 → B232 f a o v6 v8) ∧ (¬ (a 7 (0 : Int32).toNatClampNeg) ≤ v8 → (vp_in (5 * v6) 30 ∧ ∀ a29 : sx_F, a29 = sx_u a 8 (5 * v6).toNatClampNeg v8 → (vp_in ((5 * v6) + 1) 30 ∧ ∀ a30 : sx_F, a30 = sx_u a29 8 ((5 * v6) + 1).toNatClampNeg v8 → (vp_in ((5 * v6) + 2) 30 ∧ ∀ a31 : sx_F, a31 = sx_u a30 8 ((5 * v6) + 2).toNatClampNeg x4 → (∀ y32 : Int32, y32 = v6 + 1 → B232 f a31 o y32 v8))))))) → B190 f a o v6 v8) →
  (∀ (f : sx_F) (a : sx_F) (o : sl_O) (v6 : Int32) (v8 : Int32), B235 f a o v6 0 v8 → B232 f a o v6 v8) →
  (∀ (f : sx_F) (a : sx_F) (o : sl_O) (v6 : Int32) (v7 : Int32) (v8 : Int32), (∀ y33 : Int32, y33 = v8 + 1 → B9 f a o v6 v7 y33) → B235 f a o v6 v7 v8) →
  (∀ (f : sx_F) (a : sx_F) (o : sl_O) (v6 : Int32) (v8 : Int32), ((v6 ≤ v8 → Q v6 f a o) ∧ (¬ v6 ≤ v8 → (vp_in ((5 * v8) + 2) 30 ∧ (∀ y35 : Int32, y35 = (a 8 ((5 * v8) + 2).toNatClampNeg) → (vp_in (5 * v8) 30 ∧ (∀ y36 : Int32, y36 = (a 8 (5 * v8).toNatClampNeg) → (vp_in ((5 * v8) + 3) 30 ∧ ∀ a37 : sx_F, a37 = sx_u a 8 ((5 * v8) + 3).toNatClampNeg 8 → (vp_in ((5 * v8) + 4) 30 ∧ ∀ a38 : sx_F, a38 = sx_u a37 8 ((5 * v8) + 4).toNatClampNeg 8 → B296 f a38 o v6 v8 y35 y36 0)))))))) → B244 f a o v6 v8) →
  (∀ (f : sx_F) (a : sx_F) (o : sl_O) (v6 : Int32) (v8 : Int32) (v9 : Int32) (v10 : Int32) (v11 : Int32), (vp_in v10 6 ∧ (((a 3 v10.toNatClampNeg) ≤ v11 → (∀ y40 : Int32, y40 = v8 + 1 → B244 f a o v6 y40)) ∧ (¬ (a 3 v10.toNatClampNeg) ≤ v11 → (P_L_isSpring f a o v9 v10 v11 (fun r41 => ((r41 = 0 → B336 f a o v6 v8 v9 v10 v11 0) ∧ (¬ r41 = 0 → (P_L_spring f a o v9 v10 v11 (fun r46 => B336 f a o v6 v8 v9 v10 v11 r46))))))))) → B296 f a o v6 v8 v9 v10 v11) →
  (∀ (f : sx_F) (a : sx_F) (o : sl_O) (v6 : Int32) (v8 : Int32) (v9 : Int32) (v10 : Int32) (v11 : Int32) (s0 : Int32), (vp_in ((5 * v8) + 3) 30 ∧ (vp_in ((5 * v8) + 3) 30 ∧ ∀ a50 : sx_F, a50 = sx_u a 8 ((5 * v8) + 3).toNatClampNeg ((a 8 ((5 * v8) + 3).toNatClampNeg) + (s0 / 100)) → (vp_in ((5 * v8) + 4) 30 ∧ (vp_in ((5 * v8) + 4) 30 ∧ ∀ a51 : sx_F, a51 = sx_u a50 8 ((5 * v8) + 4).toNatClampNeg ((a50 8 ((5 * v8) + 4).toNatClampNeg) + (s0 - s0 / 100 * 100)) → (∀ y52 : Int32, y52 = v11 + 1 → B296 f a51 o v6 v8 v9 v10 y52))))) → B336 f a o v6 v8 v9 v10 v11 s0) →
  B9 f a o 0 0 0
def P_L_sounds (f : sx_F) (a : sx_F) (o : sl_O) (x2 : Int32) (x3 : Int32) (x4 : Int32) (Q : Int32 → Prop) : Prop :=
  ∀ (B9 : Int32 → Int32 → Int32 → Prop),
  ∀ (B73 : Int32 → Int32 → Prop),
  ∀ (B77 : Int32 → Int32 → Prop),
  ∀ (B78 : Int32 → Int32 → Int32 → Prop),
  (∀ (v5 : Int32) (v6 : Int32) (v7 : Int32), (vp_in ((6 * x2) + x3) 30 ∧ (((a 1 ((6 * x2) + x3).toNatClampNeg) ≤ v7 → ((v6 = 0 ∨ v6 = 1) ∧ Q v6)) ∧ (¬ (a 1 ((6 * x2) + x3).toNatClampNeg) ≤ v7 → (P_L_length f a o ((6 * x2) + x3) v7 (fun r2 => (∀ y6 : Int32, y6 = (v5 + r2) → ((v6 = 0 → ((x4 < v5 → B77 v7 y6) ∧ (¬ x4 < v5 → ((y6 ≤ x4 → B77 v7 y6) ∧ (¬ y6 ≤ x4 → (P_L_pitch f a o ((6 * x2) + x3) v7 (fun r10 => ((r10 ≤ 0 → B77 v7 y6) ∧ (¬ r10 ≤ 0 → B73 v7 y6))))))))) ∧ (¬ v6 = 0 → B73 v7 y6)))))))) → B9 v5 v6 v7) →
  (∀ (v7 : Int32) (v8 : Int32), B78 v7 v8 1 → B73 v7 v8) →
  (∀ (v7 : Int32) (v8 : Int32), B78 v7 v8 0 → B77 v7 v8) →
  (∀ (v7 : Int32) (v8 : Int32) (s0 : Int32), (∀ y15 : Int32, y15 = v7 + 1 → B9 v8 s0 y15) → B78 v7 v8 s0) →
  B9 0 0 0
def P_L_turn (f : sx_F) (a : sx_F) (o : sl_O) (x4 : Int32) (x5 : Int32) (Q : Int32 → Prop) : Prop :=
  ∀ (B15 : Int32 → Int32 → Int32 → Prop),
  ∀ (B69 : Int32 → Int32 → Int32 → Prop),
  ∀ (B74 : Int32 → Prop),
  ∀ (B83 : Int32 → Int32 → Int32 → Prop),
  ∀ (B135 : Int32 → Prop),
  ∀ (B148 : Prop),
  (∀ (v6 : Int32) (v7 : Int32) (v8 : Int32), ((5 ≤ x4 → B74 v6) ∧ (¬ 5 ≤ x4 → ((v8 < 0 → B74 v6) ∧ (¬ v8 < 0 → (P_L_sounds f a o x4 v8 v7 (fun r3 => ((r3 = 0 → (∀ y8 : Int32, y8 = v6 + 1 → (∀ y9 : Int32, y9 = v7 + (-1) → ((0 ≤ y9 → B15 y8 y9 v8) ∧ (¬ 0 ≤ y9 → (∀ y11 : Int32, y11 = v8 + (-1) → ((0 ≤ y11 → (vp_in y11 6 ∧ B69 y8 y11 ((a 3 y11.toNatClampNeg) - 1))) ∧ (¬ 0 ≤ y11 → B69 y8 y11 0)))))))) ∧ (¬ r3 = 0 → B74 v6)))))))) → B15 v6 v7 v8) →
  (∀ (v6 : Int32) (v8 : Int32) (s0 : Int32), B15 v6 s0 v8 → B69 v6 v8 s0) →
  (∀ (v6 : Int32), (∀ y13 : Int32, y13 = (x5 + 1) → B83 v6 0 y13) → B74 v6) →
  (∀ (v6 : Int32) (v7 : Int32) (v8 : Int32), ((5 ≤ x4 → B135 v6) ∧ (¬ 5 ≤ x4 → (vp_in 0 5 ∧ (((a 7 (0 : Int32).toNatClampNeg) ≤ v8 → B135 v6) ∧ (¬ (a 7 (0 : Int32).toNatClampNeg) ≤ v8 → (P_L_sounds f a o x4 v8 v7 (fun r16 => ((r16 = 0 → (∀ y21 : Int32, y21 = v6 + 1 → (∀ y22 : Int32, y22 = v7 + 1 → (vp_in v8 6 ∧ ((y22 = (a 3 v8.toNatClampNeg) → (∀ y24 : Int32, y24 = v8 + 1 → B83 y21 0 y24)) ∧ (¬ y22 = (a 3 v8.toNatClampNeg) → B83 y21 y22 v8)))))) ∧ (¬ r16 = 0 → B135 v6))))))))) → B83 v6 v7 v8) →
  (∀ (v6 : Int32), ((x4 = 5 → B148) ∧ (¬ x4 = 5 → ((v6 ≤ 15 → Q (100 * (16 - v6))) ∧ (¬ v6 ≤ 15 → B148)))) → B135 v6) →
  (Q 0 → B148 ) →
  (vp_in x5 6 ∧ (∀ y27 : Int32, y27 = ((a 3 x5.toNatClampNeg) - 1) → B15 0 y27 x5))
def P_L_cost (f : sx_F) (a : sx_F) (o : sl_O) (x4 : Int32) (x6 : Int32) (x7 : Int32) (x8 : Int32) (Q : Int32 → Prop) : Prop :=
  ∀ (B21 : Int32 → Int32 → Int32 → Int32 → Int32 → Int32 → Int32 → Prop),
  ∀ (B79 : Int32 → Int32 → Int32 → Int32 → Int32 → Int32 → Int32 → Prop),
  ∀ (B95 : Int32 → Int32 → Int32 → Int32 → Int32 → Prop),
  ∀ (B138 : Int32 → Int32 → Int32 → Int32 → Int32 → Prop),
  ∀ (B185 : Int32 → Int32 → Int32 → Int32 → Prop),
  ∀ (B186 : Int32 → Int32 → Int32 → Int32 → Int32 → Prop),
  ∀ (B198 : Int32 → Int32 → Int32 → Int32 → Int32 → Int32 → Int32 → Prop),
  (∀ (v9 : Int32) (v10 : Int32) (v11 : Int32) (v12 : Int32) (v13 : Int32) (v14 : Int32) (v15 : Int32), ((x6 ≤ v15 → ((x8 = 0 → Q (v9 + v10)) ∧ (¬ x8 = 0 → Q v10))) ∧ (¬ x6 ≤ v15 → (vp_in ((5 * v15) + 3) 30 ∧ (∀ y3 : Int32, y3 = (v11 + (a 8 ((5 * v15) + 3).toNatClampNeg)) → (vp_in ((5 * v15) + 4) 30 ∧ (∀ y4 : Int32, y4 = (v12 + (a 8 ((5 * v15) + 4).toNatClampNeg)) → (∀ y5 : Int32, y5 = v13 + 1 → ((v15 = (x6 - 1) → B79 v9 v10 y3 y4 y5 v14 v15) ∧ (¬ v15 = (x6 - 1) → ((((x7 >>> (v15 &&& 31)) &&& 1) = 1 → B79 v9 v10 y3 y4 y5 v14 v15) ∧ (¬ ((x7 >>> (v15 &&& 31)) &&& 1) = 1 → B198 v9 v10 y3 y4 y5 v14 v15))))))))))) → B21 v9 v10 v11 v12 v13 v14 v15) →
  (∀ (v9 : Int32) (v10 : Int32) (v11 : Int32) (v12 : Int32) (v13 : Int32) (v14 : Int32) (v15 : Int32), ((v13 ≤ 1 → B95 v9 v10 v11 v14 v15) ∧ (¬ v13 ≤ 1 → (vp_in 1 5 ∧ ((v12 ≤ (a 7 (1 : Int32).toNatClampNeg) → B95 v9 v10 v11 v14 v15) ∧ (¬ v12 ≤ (a 7 (1 : Int32).toNatClampNeg) → Q (-1)))))) → B79 v9 v10 v11 v12 v13 v14 v15) →
  (∀ (v9 : Int32) (v10 : Int32) (v11 : Int32) (v14 : Int32) (v15 : Int32), (vp_in 1 5 ∧ (∀ y10 : Int32, y10 = ((a 7 (1 : Int32).toNatClampNeg) - v11) → ((0 ≤ y10 → ((v15 = (x6 - 1) → B138 v10 v14 v15 v9 0) ∧ (¬ v15 = (x6 - 1) → B138 v10 v14 v15 v9 (y10 * y10)))) ∧ (¬ 0 ≤ y10 → B138 v10 v14 v15 v9 ((4 * y10) * y10))))) → B95 v9 v10 v11 v14 v15) →
  (∀ (v10 : Int32) (v14 : Int32) (v15 : Int32) (s0 : Int32) (s1 : Int32), (∀ y13 : Int32, y13 = (s0 + s1) → (∀ y14 : Int32, y14 = v14 + 1 → (vp_in 2 5 ∧ (¬ (a 7 (2 : Int32).toNatClampNeg) = 0 ∧ (((y14 - y14 / (a 7 (2 : Int32).toNatClampNeg) * (a 7 (2 : Int32).toNatClampNeg)) = 0 → (((x6 - 1) ≤ v15 → B185 y13 y14 v15 v10) ∧ (¬ (x6 - 1) ≤ v15 → (vp_in ((5 * v15) + 1) 30 ∧ (P_L_turn f a o x4 (a 8 ((5 * v15) + 1).toNatClampNeg) (fun r17 => B186 y13 y14 v15 v10 r17)))))) ∧ (¬ (y14 - y14 / (a 7 (2 : Int32).toNatClampNeg) * (a 7 (2 : Int32).toNatClampNeg)) = 0 → B185 y13 y14 v15 v10)))))) → B138 v10 v14 v15 s0 s1) →
  (∀ (v9 : Int32) (v14 : Int32) (v15 : Int32) (s0 : Int32), B186 v9 v14 v15 s0 0 → B185 v9 v14 v15 s0) →
  (∀ (v9 : Int32) (v14 : Int32) (v15 : Int32) (s0 : Int32) (s1 : Int32), (∀ y21 : Int32, y21 = (s0 + s1) → B198 v9 y21 0 0 0 v14 v15) → B186 v9 v14 v15 s0 s1) →
  (∀ (v9 : Int32) (v10 : Int32) (v11 : Int32) (v12 : Int32) (v13 : Int32) (v14 : Int32) (v15 : Int32), (∀ y22 : Int32, y22 = v15 + 1 → B21 v9 v10 v11 v12 v13 v14 y22) → B198 v9 v10 v11 v12 v13 v14 v15) →
  B21 0 0 0 0 0 0 0
def P_L_lines (f : sx_F) (a : sx_F) (o : sl_O) (x0 : Int32) (x1 : Int32) (Q : Int32 → Prop) : Prop :=
  ∀ (B9 : Int32 → Prop),
  ∀ (B12 : Int32 → Int32 → Prop),
  (∀ (s0 : Int32), B12 s0 0 → B9 s0) →
  (∀ (v2 : Int32) (v3 : Int32), ((x0 ≤ (v3 + 1) → Q v2) ∧ (¬ x0 ≤ (v3 + 1) → (∀ y2 : Int32, y2 = (v2 + ((x1 >>> (v3 &&& 31)) &&& 1)) → (∀ y3 : Int32, y3 = v3 + 1 → B12 y2 y3)))) → B12 v2 v3) →
  ((x0 = 0 → B9 0) ∧ (¬ x0 = 0 → B9 1))
def P_L_row (f : sx_F) (a : sx_F) (o : sl_O) (x0 : Int32) (x1 : Int32) (Q : Int32 → Prop) : Prop :=
  ∀ (B7 : Int32 → Int32 → Int32 → Prop),
  ∀ (B34 : Int32 → Int32 → Int32 → Prop),
  ∀ (B43 : Int32 → Int32 → Int32 → Prop),
  (∀ (v2 : Int32) (v3 : Int32) (v4 : Int32), ((x0 ≤ v4 → Q v2) ∧ (¬ x0 ≤ v4 → (∀ y2 : Int32, y2 = v3 + 1 → ((v4 = (x0 - 1) → B34 v2 y2 v4) ∧ (¬ v4 = (x0 - 1) → ((((x1 >>> (v4 &&& 31)) &&& 1) = 1 → B34 v2 y2 v4) ∧ (¬ ((x1 >>> (v4 &&& 31)) &&& 1) = 1 → B43 v2 y2 v4))))))) → B7 v2 v3 v4) →
  (∀ (v2 : Int32) (v3 : Int32) (v4 : Int32), (∀ y5 : Int32, y5 = ((7 * v2) + v3) → B43 y5 0 v4) → B34 v2 v3 v4) →
  (∀ (v2 : Int32) (v3 : Int32) (v4 : Int32), (∀ y6 : Int32, y6 = v4 + 1 → B7 v2 v3 y6) → B43 v2 v3 v4) →
  B7 0 0 0
def P_L_best (f : sx_F) (a : sx_F) (o : sl_O) (x4 : Int32) (x6 : Int32) (Q : Int32 → Prop) : Prop :=
  ∀ (B9 : Int32 → Int32 → Int32 → Prop),
  ∀ (B25 : Int32 → Int32 → Int32 → Int32 → Int32 → Int32 → Prop),
  ∀ (B103 : Int32 → Int32 → Int32 → Int32 → Prop),
  ∀ (B107 : Int32 → Int32 → Int32 → Int32 → Prop),
  ∀ (B108 : Int32 → Int32 → Int32 → Int32 → Int32 → Prop),
  ∀ (B139 : Int32 → Int32 → Prop),
  ∀ (B147 : Int32 → Int32 → Int32 → Prop),
  (∀ (v7 : Int32) (v8 : Int32) (v9 : Int32), ((x6 ≤ 0 → B25 v7 v8 v9 v9 1 0) ∧ (¬ x6 ≤ 0 → B25 v7 v8 v9 v9 1 (x6 - 1))) → B9 v7 v8 v9) →
  (∀ (v7 : Int32) (v8 : Int32) (v9 : Int32) (s0 : Int32) (s1 : Int32) (s2 : Int32), (((s1 <<< (s2 &&& 31)) ≤ s0 → Q v7) ∧ (¬ (s1 <<< (s2 &&& 31)) ≤ s0 → (P_L_cost f a o x4 x6 v9 0 (fun r3 => ((v7 < 0 → B107 v7 v8 v9 r3) ∧ (¬ v7 < 0 → (P_L_lines f a o x6 v9 (fun r8 => (P_L_lines f a o x6 v7 (fun r12 => ((r8 < r12 → B103 v7 v8 v9 r3) ∧ (¬ r8 < r12 → (P_L_lines f a o x6 v9 (fun r17 => (P_L_lines f a o x6 v7 (fun r21 => ((r17 = r21 → (P_L_row f a o x6 v9 (fun r26 => (P_L_row f a o x6 v7 (fun r30 => ((r30 ≤ r26 → B107 v7 v8 v9 r3) ∧ (¬ r30 ≤ r26 → B103 v7 v8 v9 r3))))))) ∧ (¬ r17 = r21 → B107 v7 v8 v9 r3)))))))))))))))))) → B25 v7 v8 v9 s0 s1 s2) →
  (∀ (v7 : Int32) (v8 : Int32) (v9 : Int32) (v10 : Int32), B108 v7 v8 v9 v10 1 → B103 v7 v8 v9 v10) →
  (∀ (v7 : Int32) (v8 : Int32) (v9 : Int32) (v10 : Int32), B108 v7 v8 v9 v10 0 → B107 v7 v8 v9 v10) →
  (∀ (v7 : Int32) (v8 : Int32) (v9 : Int32) (v10 : Int32) (s0 : Int32), ((v10 < 0 → B147 v7 v8 v9) ∧ (¬ v10 < 0 → ((v7 < 0 → B139 v9 v10) ∧ (¬ v7 < 0 → ((v10 < v8 → B139 v9 v10) ∧ (¬ v10 < v8 → ((v10 = v8 → ((s0 = 0 → B147 v7 v8 v9) ∧ (¬ s0 = 0 → B139 v9 v10))) ∧ (¬ v10 = v8 → B147 v7 v8 v9)))))))) → B108 v7 v8 v9 v10 s0) →
  (∀ (v9 : Int32) (v10 : Int32), B147 v9 v10 v9 → B139 v9 v10) →
  (∀ (v7 : Int32) (v8 : Int32) (v9 : Int32), (∀ y40 : Int32, y40 = v9 + 1 → B9 v7 v8 y40) → B147 v7 v8 v9) →
  B9 (-1) 0 0
def P_L_place (f : sx_F) (a : sx_F) (o : sl_O) (x1 : Int32) (x2 : Int32) (x3 : Int32) (Q : Int32 → sx_F → sx_F → sl_O → Prop) : Prop :=
  (P_X6_place f x1 x2 x3 (fun r1 g2 => Q r1 g2 a o) (fun E g2 => E = "java/lang/IndexOutOfBoundsException" ∧ Q (-9) g2 a o))
def P_L_isLine (f : sx_F) (a : sx_F) (o : sl_O) (x5 : Int32) (x7 : Int32) (x8 : Int32) (x9 : Int32) (Q : Int32 → sx_F → sx_F → sl_O → Prop) : Prop :=
  ∀ (B14 : sx_F → sx_F → sl_O → Int32 → Int32 → Int32 → Int32 → Nat → Prop),
  ∀ (B37 : sx_F → sx_F → sl_O → Int32 → Int32 → Int32 → Int32 → Nat → Prop),
  ∀ (B62 : sx_F → sx_F → sl_O → Int32 → Int32 → Int32 → Int32 → Nat → Prop),
  ∀ (B66 : sx_F → sx_F → sl_O → Int32 → Int32 → Int32 → Int32 → Int32 → Nat → Prop),
  ∀ (B164 : sx_F → sx_F → sl_O → Int32 → Int32 → Int32 → Int32 → Int32 → Int32 → Nat → Prop),
  ∀ (B179 : sx_F → sx_F → sl_O → Int32 → Int32 → Int32 → Int32 → Int32 → Int32 → Int32 → Int32 → Int32 → Int32 → Nat → Prop),
  ∀ (B214 : sx_F → sx_F → sl_O → Int32 → Int32 → Int32 → Int32 → Int32 → Int32 → Int32 → Int32 → Int32 → Int32 → Int32 → Int32 → Int32 → Nat → Prop),
  ∀ (B299 : sx_F → sx_F → sl_O → Int32 → Int32 → Int32 → Int32 → Int32 → Int32 → Int32 → Int32 → Int32 → Int32 → Int32 → Int32 → Int32 → Int32 → Nat → Prop),
  ∀ (B300 : sx_F → sx_F → sl_O → Int32 → Int32 → Int32 → Int32 → Int32 → Int32 → Int32 → Int32 → Int32 → Int32 → Int32 → Int32 → Int32 → Int32 → Int32 → Nat → Prop),
  ∀ (B328 : sx_F → sx_F → sl_O → Int32 → Int32 → Int32 → Int32 → Int32 → Int32 → Int32 → Int32 → Int32 → Int32 → Int32 → Int32 → Int32 → Int32 → Int32 → Nat → Prop),
  ∀ (B351 : sx_F → sx_F → sl_O → Int32 → Int32 → Int32 → Int32 → Int32 → Int32 → Int32 → Int32 → Int32 → Int32 → Int32 → Int32 → Int32 → Int32 → Nat → Prop),
  ∀ (B402 : sx_F → sx_F → sl_O → Int32 → Int32 → Int32 → Int32 → Int32 → Int32 → Int32 → Int32 → Int32 → Int32 → Int32 → Int32 → Int32 → Nat → Prop),
  ∀ (B404 : sx_F → sx_F → sl_O → Int32 → Int32 → Int32 → Int32 → Int32 → Int32 → Int32 → Int32 → Int32 → Int32 → Int32 → Int32 → Int32 → Nat → Prop),
  ∀ (B410 : sx_F → sx_F → sl_O → Int32 → Int32 → Int32 → Int32 → Int32 → Int32 → Int32 → Int32 → Int32 → Int32 → Nat → Prop),
  (∀ (f : sx_F) (a : sx_F) (o : sl_O) (v10 : Int32) (v11 : Int32) (v12 : Int32) (v13 : Int32) (ce : Nat), ((v10 ≤ 0 → B37 f a o v10 v11 v12 v13 ce) ∧ (¬ v10 ≤ 0 → ((((x8 >>> ((v10 - 1) &&& 31)) &&& 1) = 0 → (∀ y3 : Int32, y3 = v10 + (-1) → B14 f a o y3 v11 v12 v13 ce)) ∧ (¬ ((x8 >>> ((v10 - 1) &&& 31)) &&& 1) = 0 → B37 f a o v10 v11 v12 v13 ce)))) → B14 f a o v10 v11 v12 v13 ce) →
  (∀ (f : sx_F) (a : sx_F) (o : sl_O) (v10 : Int32) (v11 : Int32) (v12 : Int32) (v13 : Int32) (ce : Nat), (((x7 - 1) ≤ v11 → B62 f a o v10 v11 v12 v13 ce) ∧ (¬ (x7 - 1) ≤ v11 → ((((x8 >>> (v11 &&& 31)) &&& 1) = 0 → (∀ y6 : Int32, y6 = v11 + 1 → B37 f a o v10 y6 v12 v13 ce)) ∧ (¬ ((x8 >>> (v11 &&& 31)) &&& 1) = 0 → B62 f a o v10 v11 v12 v13 ce)))) → B37 f a o v10 v11 v12 v13 ce) →
  (∀ (f : sx_F) (a : sx_F) (o : sl_O) (v10 : Int32) (v11 : Int32) (v12 : Int32) (v13 : Int32) (ce : Nat), B66 f a o v10 v11 v12 v13 v10 ce → B62 f a o v10 v11 v12 v13 ce) →
  (∀ (f : sx_F) (a : sx_F) (o : sl_O) (v10 : Int32) (v11 : Int32) (v12 : Int32) (v13 : Int32) (v14 : Int32) (ce : Nat), ((v11 < v14 → (vp_in 1 5 ∧ (∀ y8 : Int32, y8 = (((a 7 (1 : Int32).toNatClampNeg) - v12) - (8 * ((v11 - v10) + 1))) → ((0 ≤ y8 → B164 f a o v10 v11 v12 v13 y8 0 ce) ∧ (¬ 0 ≤ y8 → (((v12 - v13) ≤ (-y8) → B164 f a o v10 v11 v12 v13 y8 (v12 - v13) ce) ∧ (¬ (v12 - v13) ≤ (-y8) → B164 f a o v10 v11 v12 v13 y8 (-y8) ce))))))) ∧ (¬ v11 < v14 → (vp_in ((5 * v14) + 3) 30 ∧ (∀ y11 : Int32, y11 = (v12 + ((a 8 ((5 * v14) + 3).toNatClampNeg) - 8)) → (vp_in ((5 * v14) + 4) 30 ∧ (∀ y12 : Int32, y12 = (v13 + ((a 8 ((5 * v14) + 4).toNatClampNeg) - 8)) → (∀ y13 : Int32, y13 = v14 + 1 → B66 f a o v10 v11 y11 y12 y13 ce))))))) → B66 f a o v10 v11 v12 v13 v14 ce) →
  (∀ (f : sx_F) (a : sx_F) (o : sl_O) (v10 : Int32) (v11 : Int32) (v12 : Int32) (v13 : Int32) (v14 : Int32) (s0 : Int32) (ce : Nat), B179 f a o v10 v11 v12 v13 v14 s0 0 0 1 v10 ce → B164 f a o v10 v11 v12 v13 v14 s0 ce) →
  (∀ (f : sx_F) (a : sx_F) (o : sl_O) (v10 : Int32) (v11 : Int32) (v12 : Int32) (v13 : Int32) (v14 : Int32) (v15 : Int32) (v16 : Int32) (v17 : Int32) (v18 : Int32) (v19 : Int32) (ce : Nat), ((v11 < v19 → (ce ≤ 300 ∧ ((v18 = 0 ∨ v18 = 1) ∧ Q v18 f a o))) ∧ (¬ v11 < v19 → ((v18 = 0 → (ce ≤ 300 ∧ ((v18 = 0 ∨ v18 = 1) ∧ Q v18 f a o))) ∧ (¬ v18 = 0 → (vp_in ((5 * v19) + 2) 30 ∧ (∀ y16 : Int32, y16 = (a 8 ((5 * v19) + 2).toNatClampNeg) → (vp_in (5 * v19) 30 ∧ (∀ y17 : Int32, y17 = (a 8 (5 * v19).toNatClampNeg) → B214 f a o v10 v11 v12 v13 v14 v15 v16 v17 v18 v19 y16 y17 0 ce)))))))) → B179 f a o v10 v11 v12 v13 v14 v15 v16 v17 v18 v19 ce) →
  (∀ (f : sx_F) (a : sx_F) (o : sl_O) (v10 : Int32) (v11 : Int32) (v12 : Int32) (v13 : Int32) (v14 : Int32) (v15 : Int32) (v16 : Int32) (v17 : Int32) (v18 : Int32) (v19 : Int32) (v20 : Int32) (v21 : Int32) (v22 : Int32) (ce : Nat), (vp_in v21 6 ∧ (((a 3 v21.toNatClampNeg) ≤ v22 → B410 f a o v10 v11 v12 v13 v14 v15 v16 v17 v18 v19 ce) ∧ (¬ (a 3 v21.toNatClampNeg) ≤ v22 → ((v18 = 0 → B410 f a o v10 v11 v12 v13 v14 v15 v16 v17 v18 v19 ce) ∧ (¬ v18 = 0 → (ce ≤ 300 ∧ (P_L_isSpring f a o v20 v21 v22 (fun r20 => ((r20 = 0 → ((v22 = 1 → (ce + 3 ≤ 300 ∧ (P_L_place f a o x5 v21 v22 (fun r26 g27 a27 o27 => ((r26 = (-9) → B402 g27 a27 o27 v10 v11 v12 v13 v14 v15 v16 v17 v19 v20 v21 v22 1 (ce + 3)) ∧ (¬ r26 = (-9) → B402 g27 a27 o27 v10 v11 v12 v13 v14 v15 v16 v17 v19 v20 v21 v22 0 (ce + 3))))))) ∧ (¬ v22 = 1 → B404 f a o v10 v11 v12 v13 v14 v15 v16 v17 v18 v19 v20 v21 v22 ce))) ∧ (¬ r20 = 0 → (ce ≤ 300 ∧ (P_L_spring f a o v20 v21 v22 (fun r29 => (∀ y33 : Int32, y33 = (((8 * (v19 - v10)) + 4) + v16) → ((v14 ≤ 0 → B299 f a o v10 v11 v12 v13 v14 v15 v16 v17 v19 v20 v21 v22 r29 y33 ce) ∧ (¬ v14 ≤ 0 → (((x7 - 1) ≤ v11 → B299 f a o v10 v11 v12 v13 v14 v15 v16 v17 v19 v20 v21 v22 r29 y33 ce) ∧ (¬ (x7 - 1) ≤ v11 → (¬ v12 = 0 ∧ B300 f a o v10 v11 v12 v13 v14 v15 v16 v17 v19 v20 v21 v22 r29 y33 ((v14 * v16) / v12) ce))))))))))))))))))) → B214 f a o v10 v11 v12 v13 v14 v15 v16 v17 v18 v19 v20 v21 v22 ce) →
  (∀ (f : sx_F) (a : sx_F) (o : sl_O) (v10 : Int32) (v11 : Int32) (v12 : Int32) (v13 : Int32) (v14 : Int32) (v15 : Int32) (v16 : Int32) (v17 : Int32) (v19 : Int32) (v20 : Int32) (v21 : Int32) (v22 : Int32) (v23 : Int32) (s0 : Int32) (ce : Nat), B300 f a o v10 v11 v12 v13 v14 v15 v16 v17 v19 v20 v21 v22 v23 s0 0 ce → B299 f a o v10 v11 v12 v13 v14 v15 v16 v17 v19 v20 v21 v22 v23 s0 ce) →
  (∀ (f : sx_F) (a : sx_F) (o : sl_O) (v10 : Int32) (v11 : Int32) (v12 : Int32) (v13 : Int32) (v14 : Int32) (v15 : Int32) (v16 : Int32) (v17 : Int32) (v19 : Int32) (v20 : Int32) (v21 : Int32) (v22 : Int32) (v23 : Int32) (s0 : Int32) (s1 : Int32) (ce : Nat), (∀ y36 : Int32, y36 = (s0 + s1) → ((v15 ≤ 0 → B328 f a o v10 v11 v12 v13 v14 v15 v16 v17 v19 v20 v21 v22 v23 y36 0 ce) ∧ (¬ v15 ≤ 0 → (¬ (v12 - v13) = 0 ∧ B328 f a o v10 v11 v12 v13 v14 v15 v16 v17 v19 v20 v21 v22 v23 y36 ((v15 * (v16 - v17)) / (v12 - v13)) ce)))) → B300 f a o v10 v11 v12 v13 v14 v15 v16 v17 v19 v20 v21 v22 v23 s0 s1 ce) →
  (∀ (f : sx_F) (a : sx_F) (o : sl_O) (v10 : Int32) (v11 : Int32) (v12 : Int32) (v13 : Int32) (v14 : Int32) (v15 : Int32) (v16 : Int32) (v17 : Int32) (v19 : Int32) (v20 : Int32) (v21 : Int32) (v22 : Int32) (v23 : Int32) (s0 : Int32) (s1 : Int32) (ce : Nat), (∀ y38 : Int32, y38 = (s0 - s1) → (ce + 3 ≤ 300 ∧ (P_L_place f a o x5 v21 v22 (fun r39 g40 a40 o40 => ((r39 = y38 → B351 g40 a40 o40 v10 v11 v12 v13 v14 v15 v16 v17 v19 v20 v21 v22 v23 1 (ce + 3)) ∧ (¬ r39 = y38 → B351 g40 a40 o40 v10 v11 v12 v13 v14 v15 v16 v17 v19 v20 v21 v22 v23 0 (ce + 3))))))) → B328 f a o v10 v11 v12 v13 v14 v15 v16 v17 v19 v20 v21 v22 v23 s0 s1 ce) →
  (∀ (f : sx_F) (a : sx_F) (o : sl_O) (v10 : Int32) (v11 : Int32) (v12 : Int32) (v13 : Int32) (v14 : Int32) (v15 : Int32) (v16 : Int32) (v17 : Int32) (v19 : Int32) (v20 : Int32) (v21 : Int32) (v22 : Int32) (v23 : Int32) (s0 : Int32) (ce : Nat), (∀ y42 : Int32, y42 = (v16 + (v23 / 100)) → (∀ y43 : Int32, y43 = (v17 + (v23 - v23 / 100 * 100)) → B404 f a o v10 v11 v12 v13 v14 v15 y42 y43 s0 v19 v20 v21 v22 ce)) → B351 f a o v10 v11 v12 v13 v14 v15 v16 v17 v19 v20 v21 v22 v23 s0 ce) →
  (∀ (f : sx_F) (a : sx_F) (o : sl_O) (v10 : Int32) (v11 : Int32) (v12 : Int32) (v13 : Int32) (v14 : Int32) (v15 : Int32) (v16 : Int32) (v17 : Int32) (v19 : Int32) (v20 : Int32) (v21 : Int32) (v22 : Int32) (s0 : Int32) (ce : Nat), B404 f a o v10 v11 v12 v13 v14 v15 v16 v17 s0 v19 v20 v21 v22 ce → B402 f a o v10 v11 v12 v13 v14 v15 v16 v17 v19 v20 v21 v22 s0 ce) →
  (∀ (f : sx_F) (a : sx_F) (o : sl_O) (v10 : Int32) (v11 : Int32) (v12 : Int32) (v13 : Int32) (v14 : Int32) (v15 : Int32) (v16 : Int32) (v17 : Int32) (v18 : Int32) (v19 : Int32) (v20 : Int32) (v21 : Int32) (v22 : Int32) (ce : Nat), (∀ y44 : Int32, y44 = v22 + 1 → B214 f a o v10 v11 v12 v13 v14 v15 v16 v17 v18 v19 v20 v21 y44 ce) → B404 f a o v10 v11 v12 v13 v14 v15 v16 v17 v18 v19 v20 v21 v22 ce) →
  (∀ (f : sx_F) (a : sx_F) (o : sl_O) (v10 : Int32) (v11 : Int32) (v12 : Int32) (v13 : Int32) (v14 : Int32) (v15 : Int32) (v16 : Int32) (v17 : Int32) (v18 : Int32) (v19 : Int32) (ce : Nat), (∀ y45 : Int32, y45 = v19 + 1 → B179 f a o v10 v11 v12 v13 v14 v15 v16 v17 v18 y45 ce) → B410 f a o v10 v11 v12 v13 v14 v15 v16 v17 v18 v19 ce) →
  B14 f a o x9 x9 0 0 0
def P_L_isBook (f : sx_F) (a : sx_F) (o : sl_O) (x5 : Int32) (x6 : Int32) (Q : Int32 → sx_F → sx_F → sl_O → Prop) : Prop :=
  ∀ (B111 : sx_F → sx_F → sl_O → Int32 → Int32 → Prop),
  ∀ (B141 : sx_F → sx_F → sl_O → Int32 → Int32 → Prop),
  ∀ (B142 : sx_F → sx_F → sl_O → Int32 → Int32 → Int32 → Prop),
  ∀ (B150 : sx_F → sx_F → sl_O → Int32 → Int32 → Int32 → Int32 → Int32 → Prop),
  ∀ (B187 : sx_F → sx_F → sl_O → Int32 → Int32 → Int32 → Int32 → Int32 → Prop),
  ∀ (B198 : sx_F → sx_F → sl_O → Int32 → Int32 → Int32 → Int32 → Int32 → Int32 → Prop),
  ∀ (B294 : sx_F → sx_F → sl_O → Int32 → Int32 → Int32 → Int32 → Int32 → Int32 → Int32 → Prop),
  ∀ (B297 : sx_F → sx_F → sl_O → Int32 → Int32 → Int32 → Int32 → Int32 → Prop),
  ∀ (B301 : sx_F → sx_F → sl_O → Int32 → Int32 → Int32 → Int32 → Int32 → Prop),
  ∀ (B302 : sx_F → sx_F → sl_O → Int32 → Int32 → Int32 → Int32 → Int32 → Int32 → Prop),
  ∀ (B310 : sx_F → sx_F → sl_O → Int32 → Int32 → Int32 → Int32 → Int32 → Prop),
  ∀ (B328 : sx_F → sx_F → sl_O → Int32 → Int32 → Int32 → Prop),
  ∀ (B363 : sx_F → sx_F → sl_O → Prop),
  (∀ (f : sx_F) (a : sx_F) (o : sl_O) (v8 : Int32) (v9 : Int32), (P_X6_turns f x5 (fun r1 g2 => (P_L_cost g2 a o x5 v8 v9 1 (fun r3 => ((r1 = r3 → B142 g2 a o v8 v9 1) ∧ (¬ r1 = r3 → B141 g2 a o v8 v9))))) (fun _ _ => False)) → B111 f a o v8 v9) →
  (∀ (f : sx_F) (a : sx_F) (o : sl_O) (v8 : Int32) (v9 : Int32), B142 f a o v8 v9 0 → B141 f a o v8 v9) →
  (∀ (f : sx_F) (a : sx_F) (o : sl_O) (v8 : Int32) (v9 : Int32) (s0 : Int32), B150 f a o v8 v9 s0 0 0 → B142 f a o v8 v9 s0) →
  (∀ (f : sx_F) (a : sx_F) (o : sl_O) (v8 : Int32) (v9 : Int32) (v10 : Int32) (v11 : Int32) (v12 : Int32), ((v8 ≤ v12 → B328 f a o v8 v9 v10) ∧ (¬ v8 ≤ v12 → ((v10 = 0 → B328 f a o v8 v9 v10) ∧ (¬ v10 = 0 → (P_X6_width f x5 v12 (fun r10 g11 => (vp_in ((5 * v12) + 3) 30 ∧ ((r10 = (a 8 ((5 * v12) + 3).toNatClampNeg) → B187 g11 a o v8 v9 v11 v12 1) ∧ (¬ r10 = (a 8 ((5 * v12) + 3).toNatClampNeg) → B187 g11 a o v8 v9 v11 v12 0)))) (fun _ _ => False)))))) → B150 f a o v8 v9 v10 v11 v12) →
  (∀ (f : sx_F) (a : sx_F) (o : sl_O) (v8 : Int32) (v9 : Int32) (v11 : Int32) (v12 : Int32) (s0 : Int32), (vp_in (5 * v12) 30 ∧ (∀ y13 : Int32, y13 = (a 8 (5 * v12).toNatClampNeg) → B198 f a o v8 v9 s0 v11 v12 y13)) → B187 f a o v8 v9 v11 v12 s0) →
  (∀ (f : sx_F) (a : sx_F) (o : sl_O) (v8 : Int32) (v9 : Int32) (v10 : Int32) (v11 : Int32) (v12 : Int32) (v13 : Int32), (vp_in ((5 * v12) + 1) 30 ∧ (((a 8 ((5 * v12) + 1).toNatClampNeg) < v13 → B310 f a o v8 v9 v10 v11 v12) ∧ (¬ (a 8 ((5 * v12) + 1).toNatClampNeg) < v13 → ((v10 = 0 → B310 f a o v8 v9 v10 v11 v12) ∧ (¬ v10 = 0 → ((((x6 + v12) - (x6 + v12) / 3 * 3) = 0 → (P_X6_itemOf f x5 v13 (fun r17 g18 => ((r17 = v12 → (P_X6_lineOf g18 x5 v13 (fun r20 g21 => ((r20 = v11 → ((x5 = 5 → B297 g21 a o v8 v9 v11 v12 v13) ∧ (¬ x5 = 5 → (P_X6_cue g21 x5 v13 (fun r24 => (vp_in ((5 * v12) + 2) 30 ∧ (((a 8 ((5 * v12) + 2).toNatClampNeg) = x5 → B294 g21 a o v8 v9 v11 v12 v13 r24 (-1)) ∧ (¬ (a 8 ((5 * v12) + 2).toNatClampNeg) = x5 → (vp_in ((5 * v12) + 2) 30 ∧ B294 g21 a o v8 v9 v11 v12 v13 r24 (a 8 ((5 * v12) + 2).toNatClampNeg)))))) (fun _ => False))))) ∧ (¬ r20 = v11 → B301 g21 a o v8 v9 v11 v12 v13))) (fun _ _ => False))) ∧ (¬ r17 = v12 → B301 g18 a o v8 v9 v11 v12 v13))) (fun _ _ => False))) ∧ (¬ ((x6 + v12) - (x6 + v12) / 3 * 3) = 0 → B310 f a o v8 v9 v10 v11 v12))))))) → B198 f a o v8 v9 v10 v11 v12 v13) →
  (∀ (f : sx_F) (a : sx_F) (o : sl_O) (v8 : Int32) (v9 : Int32) (v11 : Int32) (v12 : Int32) (v13 : Int32) (s0 : Int32) (s1 : Int32), ((s0 = s1 → B297 f a o v8 v9 v11 v12 v13) ∧ (¬ s0 = s1 → B301 f a o v8 v9 v11 v12 v13)) → B294 f a o v8 v9 v11 v12 v13 s0 s1) →
  (∀ (f : sx_F) (a : sx_F) (o : sl_O) (v8 : Int32) (v9 : Int32) (v11 : Int32) (v12 : Int32) (v13 : Int32), B302 f a o v8 v9 v11 v12 v13 1 → B297 f a o v8 v9 v11 v12 v13) →
  (∀ (f : sx_F) (a : sx_F) (o : sl_O) (v8 : Int32) (v9 : Int32) (v11 : Int32) (v12 : Int32) (v13 : Int32), B302 f a o v8 v9 v11 v12 v13 0 → B301 f a o v8 v9 v11 v12 v13) →
  (∀ (f : sx_F) (a : sx_F) (o : sl_O) (v8 : Int32) (v9 : Int32) (v11 : Int32) (v12 : Int32) (v13 : Int32) (s0 : Int32), (∀ y28 : Int32, y28 = v13 + 1 → B198 f a o v8 v9 s0 v11 v12 y28) → B302 f a o v8 v9 v11 v12 v13 s0) →
  (∀ (f : sx_F) (a : sx_F) (o : sl_O) (v8 : Int32) (v9 : Int32) (v10 : Int32) (v11 : Int32) (v12 : Int32), (∀ y29 : Int32, y29 = (v11 + ((v9 >>> (v12 &&& 31)) &&& 1)) → (∀ y30 : Int32, y30 = v12 + 1 → B150 f a o v8 v9 v10 y29 y30)) → B310 f a o v8 v9 v10 v11 v12) →
  (∀ (f : sx_F) (a : sx_F) (o : sl_O) (v8 : Int32) (v9 : Int32) (v10 : Int32), ((v10 = 0 → Q 0 f a o) ∧ (¬ v10 = 0 → ((v8 = 0 → B363 f a o) ∧ (¬ v8 = 0 → (¬ v8 = 0 ∧ (P_L_isLine f a o x5 v8 v9 (x6 - x6 / v8 * v8) (fun r33 g34 a34 o34 => ((r33 = 0 → Q 0 g34 a34 o34) ∧ (¬ r33 = 0 → B363 g34 a34 o34))))))))) → B328 f a o v8 v9 v10) →
  (∀ (f : sx_F) (a : sx_F) (o : sl_O), Q 1 f a o → B363 f a o) →
  (∀ a36 : sx_F, a36 = sl_a8 a → (P_L_items f a36 o x5 (fun r37 g38 a38 o38 => (P_L_best g38 a38 o38 x5 r37 (fun r39 => (P_X6_items g38 x5 (fun r43 g44 => ((r43 = r37 → (P_X6_lines g44 x5 (fun r46 g47 => (P_L_lines g47 a38 o38 r37 r39 (fun r48 => ((r46 = r48 → (P_X6_cost g47 x5 (fun r53 g54 => (P_L_cost g54 a38 o38 x5 r37 r39 0 (fun r55 => ((r53 = r55 → ((0 < (x6 - x6 / 4 * 4) → B111 g54 a38 o38 r37 r39) ∧ (¬ 0 < (x6 - x6 / 4 * 4) → (P_X6_costByAll g54 x5 (fun r61 g62 => (P_X6_cost g62 x5 (fun r63 g64 => ((r61 = r63 → B111 g64 a38 o38 r37 r39) ∧ (¬ r61 = r63 → B141 g64 a38 o38 r37 r39))) (fun _ _ => False))) (fun _ _ => False))))) ∧ (¬ r53 = r55 → B141 g54 a38 o38 r37 r39))))) (fun _ _ => False))) ∧ (¬ r46 = r48 → B141 g47 a38 o38 r37 r39))))) (fun _ _ => False))) ∧ (¬ r43 = r37 → B141 g44 a38 o38 r37 r39))) (fun _ _ => False)))))))
def P_L_owes (f : sx_F) (a : sx_F) (o : sl_O) (x2 : Int32) (x3 : Int32) (Q : Int32 → Prop) : Prop :=
  (vp_in ((8 * x2) + 1) 48 ∧ (((a 4 ((8 * x2) + 1).toNatClampNeg) < 0 → Q 0) ∧ (¬ (a 4 ((8 * x2) + 1).toNatClampNeg) < 0 → (vp_in (((8 * x2) + 2) + x3) 48 ∧ (vp_in (8 * x2) 48 ∧ (vp_in ((6 * (a 4 (8 * x2).toNatClampNeg)) + x3) 30 ∧ (((a 4 (((8 * x2) + 2) + x3).toNatClampNeg) = (a 2 ((6 * (a 4 (8 * x2).toNatClampNeg)) + x3).toNatClampNeg) → Q 0) ∧ (¬ (a 4 (((8 * x2) + 2) + x3).toNatClampNeg) = (a 2 ((6 * (a 4 (8 * x2).toNatClampNeg)) + x3).toNatClampNeg) → Q 1))))))))
def P_L_owed (f : sx_F) (a : sx_F) (o : sl_O) (x3 : Int32) (Q : Int32 → Prop) : Prop :=
  ∀ (B6 : Int32 → Int32 → Prop),
  ∀ (B32 : Int32 → Int32 → Int32 → Prop),
  (∀ (v4 : Int32) (v5 : Int32), (vp_in 0 5 ∧ (((a 7 (0 : Int32).toNatClampNeg) ≤ v5 → Q v4) ∧ (¬ (a 7 (0 : Int32).toNatClampNeg) ≤ v5 → (P_L_owes f a o x3 v5 (fun r2 => ((r2 = 0 → B32 v5 v4 0) ∧ (¬ r2 = 0 → B32 v5 v4 1))))))) → B6 v4 v5) →
  (∀ (v5 : Int32) (s0 : Int32) (s1 : Int32), (∀ y7 : Int32, y7 = (s0 + s1) → (∀ y8 : Int32, y8 = v5 + 1 → B6 y7 y8)) → B32 v5 s0 s1) →
  B6 0 0
def P_L_bowing (f : sx_F) (a : sx_F) (o : sl_O) (x2 : Int32) (x3 : Int32) (x4 : Int32) (Q : Int32 → Prop) : Prop :=
  (vp_in ((12 * x2) + x3) 48 ∧ (∀ y1 : Int32, y1 = ((sl_shr (o 6 ((12 * x2) + x3).toNatClampNeg) (8 * x4)) &&& (255 : Int64)).toInt32 → (vp_in x3 30 ∧ (((y1 / 4) = (a 2 x3.toNatClampNeg) → Q (y1 - y1 / 4 * 4)) ∧ (¬ (y1 / 4) = (a 2 x3.toNatClampNeg) → Q 0)))))
def P_L_areCopies (f : sx_F) (a : sx_F) (o : sl_O) (x7 : Int32) (Q : Int32 → Prop) : Prop :=
  ∀ (B26 : Prop),
  ∀ (B27 : Int32 → Prop),
  ∀ (B32 : Int32 → Int32 → Prop),
  ∀ (B86 : Int32 → Prop),
  ∀ (B87 : Int32 → Int32 → Prop),
  ∀ (B92 : Int32 → Int32 → Int32 → Prop),
  ∀ (B156 : Int32 → Int32 → Int32 → Int32 → Prop),
  ∀ (B164 : Int32 → Int32 → Int32 → Prop),
  ∀ (B172 : Int32 → Int32 → Prop),
  ∀ (B178 : Int32 → Prop),
  ∀ (B191 : Int32 → Int32 → Int32 → Int32 → Prop),
  ∀ (B205 : Int32 → Int32 → Int32 → Int32 → Int32 → Prop),
  ∀ (B274 : Int32 → Int32 → Int32 → Int32 → Int32 → Prop),
  ∀ (B275 : Int32 → Int32 → Int32 → Int32 → Int32 → Int32 → Prop),
  ∀ (B301 : Int32 → Int32 → Int32 → Int32 → Int32 → Prop),
  ∀ (B309 : Int32 → Int32 → Int32 → Int32 → Prop),
  ∀ (B315 : Int32 → Int32 → Int32 → Prop),
  ∀ (B318 : Int32 → Int32 → Int32 → Int32 → Prop),
  ∀ (B339 : Int32 → Int32 → Int32 → Int32 → Int32 → Prop),
  ∀ (B357 : Int32 → Int32 → Int32 → Int32 → Int32 → Int32 → Prop),
  ∀ (B369 : Int32 → Int32 → Int32 → Int32 → Int32 → Int32 → Int32 → Prop),
  ∀ (B421 : Int32 → Int32 → Int32 → Int32 → Int32 → Int32 → Int32 → Int32 → Prop),
  ∀ (B458 : Int32 → Int32 → Int32 → Int32 → Prop),
  ∀ (B466 : Int32 → Int32 → Int32 → Prop),
  (B27 0 → B26 ) →
  (∀ (s0 : Int32), B32 s0 0 → B27 s0) →
  (∀ (v8 : Int32) (v9 : Int32), (vp_in 3 5 ∧ (((a 7 (3 : Int32).toNatClampNeg) ≤ v9 → B178 v8) ∧ (¬ (a 7 (3 : Int32).toNatClampNeg) ≤ v9 → ((v8 = 0 → B178 v8) ∧ (¬ v8 = 0 → (P_X6_deskOf f v9 (fun r3 => (vp_in ((8 * v9) + 1) 48 ∧ ((r3 = (a 4 ((8 * v9) + 1).toNatClampNeg) → (P_X6_owed f v9 (fun r6 => (P_L_owed f a o v9 (fun r8 => ((r6 = r8 → B87 v9 1) ∧ (¬ r6 = r8 → B86 v9))))) (fun _ => False))) ∧ (¬ r3 = (a 4 ((8 * v9) + 1).toNatClampNeg) → B86 v9)))) (fun _ => False))))))) → B32 v8 v9) →
  (∀ (v9 : Int32), B87 v9 0 → B86 v9) →
  (∀ (v9 : Int32) (s0 : Int32), B92 s0 v9 0 → B87 v9 s0) →
  (∀ (v8 : Int32) (v9 : Int32) (v10 : Int32), (vp_in 0 5 ∧ (((a 7 (0 : Int32).toNatClampNeg) ≤ v10 → B172 v8 v9) ∧ (¬ (a 7 (0 : Int32).toNatClampNeg) ≤ v10 → ((v8 = 0 → B172 v8 v9) ∧ (¬ v8 = 0 → (P_X6_has f v9 v10 (fun r15 => (vp_in ((8 * v9) + 1) 48 ∧ ((0 ≤ (a 4 ((8 * v9) + 1).toNatClampNeg) → (vp_in (((8 * v9) + 2) + v10) 48 ∧ B156 v9 v10 r15 (a 4 (((8 * v9) + 2) + v10).toNatClampNeg))) ∧ (¬ 0 ≤ (a 4 ((8 * v9) + 1).toNatClampNeg) → (vp_in (8 * v9) 48 ∧ (vp_in ((6 * (a 4 (8 * v9).toNatClampNeg)) + v10) 30 ∧ B156 v9 v10 r15 (a 2 ((6 * (a 4 (8 * v9).toNatClampNeg)) + v10).toNatClampNeg))))))) (fun _ => False))))))) → B92 v8 v9 v10) →
  (∀ (v9 : Int32) (v10 : Int32) (s0 : Int32) (s1 : Int32), ((s0 = s1 → B164 v9 v10 1) ∧ (¬ s0 = s1 → B164 v9 v10 0)) → B156 v9 v10 s0 s1) →
  (∀ (v9 : Int32) (v10 : Int32) (s0 : Int32), (∀ y19 : Int32, y19 = v10 + 1 → B92 s0 v9 y19) → B164 v9 v10 s0) →
  (∀ (v8 : Int32) (v9 : Int32), (∀ y20 : Int32, y20 = v9 + 1 → B32 v8 y20) → B172 v8 v9) →
  (∀ (v8 : Int32), (∀ y21 : Int32, y21 = (x7 - x7 / 6 * 6) → B191 v8 y21 0 0) → B178 v8) →
  (∀ (v8 : Int32) (v9 : Int32) (v10 : Int32) (v11 : Int32), ((5 ≤ v11 → B315 v8 v9 v10) ∧ (¬ 5 ≤ v11 → ((v8 = 0 → B315 v8 v9 v10) ∧ (¬ v8 = 0 → B205 v8 v9 v10 v11 0)))) → B191 v8 v9 v10 v11) →
  (∀ (v8 : Int32) (v9 : Int32) (v10 : Int32) (v11 : Int32) (v12 : Int32), (vp_in 0 5 ∧ (((a 7 (0 : Int32).toNatClampNeg) ≤ v12 → B309 v8 v9 v10 v11) ∧ (¬ (a 7 (0 : Int32).toNatClampNeg) ≤ v12 → ((v8 = 0 → B309 v8 v9 v10 v11) ∧ (¬ v8 = 0 → (vp_in ((5 * v9) + v11) 30 ∧ (∀ y26 : Int32, y26 = ((sl_shr (o 5 ((5 * v9) + v11).toNatClampNeg) (10 * v12)) &&& (1023 : Int64)).toInt32 → (((y26 - y26 / 16 * 16) ≤ 0 → B274 v9 v11 v12 y26 v10) ∧ (¬ (y26 - y26 / 16 * 16) ≤ 0 → (vp_in ((6 * v11) + v12) 30 ∧ (((y26 / 16) = (a 2 ((6 * v11) + v12).toNatClampNeg) → B274 v9 v11 v12 y26 v10) ∧ (¬ (y26 / 16) = (a 2 ((6 * v11) + v12).toNatClampNeg) → B275 v9 v11 v12 y26 v10 1)))))))))))) → B205 v8 v9 v10 v11 v12) →
  (∀ (v9 : Int32) (v11 : Int32) (v12 : Int32) (v13 : Int32) (s0 : Int32), B275 v9 v11 v12 v13 s0 0 → B274 v9 v11 v12 v13 s0) →
  (∀ (v9 : Int32) (v11 : Int32) (v12 : Int32) (v13 : Int32) (s0 : Int32) (s1 : Int32), (∀ y29 : Int32, y29 = (s0 + s1) → (P_X6_markOf f v9 v11 v12 (fun r30 => ((r30 = (v13 - v13 / 16 * 16) → B301 v9 y29 v11 v12 1) ∧ (¬ r30 = (v13 - v13 / 16 * 16) → B301 v9 y29 v11 v12 0))) (fun _ => False))) → B275 v9 v11 v12 v13 s0 s1) →
  (∀ (v9 : Int32) (v10 : Int32) (v11 : Int32) (v12 : Int32) (s0 : Int32), (∀ y33 : Int32, y33 = v12 + 1 → B205 s0 v9 v10 v11 y33) → B301 v9 v10 v11 v12 s0) →
  (∀ (v8 : Int32) (v9 : Int32) (v10 : Int32) (v11 : Int32), (∀ y34 : Int32, y34 = v11 + 1 → B191 v8 v9 v10 y34) → B309 v8 v9 v10 v11) →
  (∀ (v8 : Int32) (v9 : Int32) (v10 : Int32), B318 v8 v9 v10 0 → B315 v8 v9 v10) →
  (∀ (v8 : Int32) (v9 : Int32) (v10 : Int32) (v11 : Int32), ((2 ≤ v11 → B466 v8 v9 v10) ∧ (¬ 2 ≤ v11 → ((v8 = 0 → B466 v8 v9 v10) ∧ (¬ v8 = 0 → (∀ y37 : Int32, y37 = (6 * v11) → B339 v9 v10 v11 0 y37))))) → B318 v8 v9 v10 v11) →
  (∀ (v9 : Int32) (v10 : Int32) (v11 : Int32) (v12 : Int32) (v13 : Int32), (vp_in 0 5 ∧ ((((6 * v11) + (a 7 (0 : Int32).toNatClampNeg)) ≤ v13 → (P_X6_clashes f v11 (fun r39 => ((r39 = v12 → B458 v9 v10 v11 1) ∧ (¬ r39 = v12 → B458 v9 v10 v11 0))) (fun _ => False))) ∧ (¬ ((6 * v11) + (a 7 (0 : Int32).toNatClampNeg)) ≤ v13 → B357 v9 v10 v11 v12 v13 0))) → B339 v9 v10 v11 v12 v13) →
  (∀ (v9 : Int32) (v10 : Int32) (v11 : Int32) (v12 : Int32) (v13 : Int32) (v14 : Int32), (vp_in v13 30 ∧ (((a 1 v13.toNatClampNeg) ≤ v14 → (∀ y43 : Int32, y43 = v13 + 1 → B339 v9 v10 v11 v12 y43)) ∧ (¬ (a 1 v13.toNatClampNeg) ≤ v14 → B369 v9 v10 v11 v12 v13 v14 0))) → B357 v9 v10 v11 v12 v13 v14) →
  (∀ (v9 : Int32) (v10 : Int32) (v11 : Int32) (v12 : Int32) (v13 : Int32) (v14 : Int32) (v15 : Int32), ((4 ≤ v15 → (∀ y45 : Int32, y45 = v14 + 1 → B357 v9 v10 v11 v12 v13 y45)) ∧ (¬ 4 ≤ v15 → (P_L_bowing f a o v15 v13 v14 (fun r46 => (P_L_bowing f a o (v15 + 1) v13 v14 (fun r50 => (((r46 * r50) = 2 → B421 v9 v10 v11 v13 v14 v15 v12 1) ∧ (¬ (r46 * r50) = 2 → B421 v9 v10 v11 v13 v14 v15 v12 0)))))))) → B369 v9 v10 v11 v12 v13 v14 v15) →
  (∀ (v9 : Int32) (v10 : Int32) (v11 : Int32) (v13 : Int32) (v14 : Int32) (v15 : Int32) (s0 : Int32) (s1 : Int32), (∀ y55 : Int32, y55 = (s0 + s1) → (∀ y56 : Int32, y56 = v15 + 2 → B369 v9 v10 v11 y55 v13 v14 y56)) → B421 v9 v10 v11 v13 v14 v15 s0 s1) →
  (∀ (v9 : Int32) (v10 : Int32) (v11 : Int32) (s0 : Int32), (∀ y57 : Int32, y57 = v11 + 1 → B318 s0 v9 v10 y57) → B458 v9 v10 v11 s0) →
  (∀ (v8 : Int32) (v9 : Int32) (v10 : Int32), ((v8 = 0 → Q 0) ∧ (¬ v8 = 0 → (P_X6_oldMarks f v9 (fun r59 => ((r59 = v10 → Q 1) ∧ (¬ r59 = v10 → Q 0))) (fun _ => False)))) → B466 v8 v9 v10) →
  (P_X6_copies f (fun r62 => (vp_in 3 5 ∧ ((r62 = (a 7 (3 : Int32).toNatClampNeg) → (P_X6_concerts f (fun r65 => (vp_in 4 5 ∧ ((r65 = (a 7 (4 : Int32).toNatClampNeg) → B27 1) ∧ (¬ r65 = (a 7 (4 : Int32).toNatClampNeg) → B26)))))) ∧ (¬ r62 = (a 7 (3 : Int32).toNatClampNeg) → B26)))))
def P_L_noted (f : sx_F) (a : sx_F) (o : sl_O) (x1 : Int32) (x2 : Int32) (x3 : Int32) (x4 : Int32) (Q : Int32 → sx_F → sx_F → sl_O → Prop) : Prop :=
  (P_X6_note f x1 x2 x3 x4 (fun r1 g2 => Q r1 g2 a o) (fun E g2 => E = "java/lang/IllegalStateException" ∧ Q (-7) g2 a o))
def P_L_lent (f : sx_F) (a : sx_F) (o : sl_O) (x1 : Int32) (x2 : Int32) (Q : Int32 → sx_F → sx_F → sl_O → Prop) : Prop :=
  (P_X6_lend f x1 x2 (fun r1 g2 => Q r1 g2 a o) (fun E g2 => E = "java/lang/IllegalStateException" ∧ Q (-7) g2 a o))
def P_L_did (f : sx_F) (a : sx_F) (o : sl_O) (x1 : Int32) (x2 : Int32) (Q : Int32 → sx_F → sx_F → sl_O → Prop) : Prop :=
  ((x1 = 0 → (P_X6_giveBack f x2 (fun r4 g5 => Q r4 g5 a o) (fun E g5 => E = "java/lang/IllegalStateException" ∧ Q (-7) g5 a o))) ∧ (¬ x1 = 0 → (P_X6_paste f x2 (fun r2 g3 => Q r2 g3 a o) (fun E g3 => E = "java/lang/IllegalStateException" ∧ Q (-7) g3 a o))))
def P_L_marked (f : sx_F) (a : sx_F) (o : sl_O) (x1 : Int32) (x2 : Int32) (x3 : Int32) (Q : Int32 → sx_F → sx_F → sl_O → Prop) : Prop :=
  (P_X6_mark f x1 x2 x3 (fun r1 g2 => Q r1 g2 a o) (fun E g2 => E = "java/lang/IllegalStateException" ∧ Q (-7) g2 a o))
def P_L_bowed (f : sx_F) (a : sx_F) (o : sl_O) (x1 : Int32) (x2 : Int32) (x3 : Int32) (x4 : Int32) (Q : Int32 → sx_F → sx_F → sl_O → Prop) : Prop :=
  (P_X6_bow f x1 x2 x3 x4 (fun r1 g2 => Q r1 g2 a o) (fun E g2 => E = "java/lang/IllegalStateException" ∧ Q (-7) g2 a o))
def P_L_played (f : sx_F) (a : sx_F) (o : sl_O)  (Q : Int32 → sx_F → sx_F → sl_O → Prop) : Prop :=
  (P_X6_play f (fun r1 g2 => Q r1 g2 a o) (fun E g2 => E = "java/lang/IllegalStateException" ∧ Q (-7) g2 a o))
def P_L_isNoted (f : sx_F) (a : sx_F) (o : sl_O) (x6 : Int32) (x7 : Int32) (Q : Int32 → sx_F → sx_F → sl_O → Prop) : Prop :=
  ∀ (B64 : sx_F → sx_F → sl_O → Int32 → Int32 → Int32 → Int32 → Int32 → Int32 → Int32 → Prop),
  ∀ (B74 : sx_F → sx_F → sl_O → Int32 → Int32 → Int32 → Int32 → Int32 → Int32 → Int32 → Prop),
  ∀ (B137 : sx_F → sx_F → sl_O → Int32 → Int32 → Int32 → Int32 → Int32 → Prop),
  ∀ (B138 : sx_F → sx_F → sl_O → Int32 → Int32 → Int32 → Int32 → Int32 → Int32 → Prop),
  ∀ (B214 : sx_F → sx_F → sl_O → Int32 → Int32 → Int32 → Int32 → Int32 → Int32 → Prop),
  ∀ (B240 : sx_F → sx_F → sl_O → Int32 → Int32 → Prop),
  ∀ (B286 : sx_F → sx_F → sl_O → Int32 → Int32 → Int32 → Int32 → Int32 → Int32 → Int32 → Prop),
  ∀ (B312 : sx_F → sx_F → sl_O → Int32 → Int32 → Int32 → Int32 → Prop),
  ∀ (B328 : sx_F → sx_F → sl_O → Int32 → Int32 → Int32 → Prop),
  ∀ (B425 : sx_F → sx_F → sl_O → Int32 → Int32 → Int32 → Int32 → Int32 → Int32 → Int32 → Int32 → Int32 → Prop),
  (∀ (f : sx_F) (a : sx_F) (o : sl_O) (v8 : Int32) (v9 : Int32) (v10 : Int32) (v11 : Int32) (s0 : Int32) (s1 : Int32) (s2 : Int32), (¬ s2 = 0 ∧ (∀ y1 : Int32, y1 = (s0 + (s1 - s1 / s2 * s2)) → B74 f a o v8 v9 v10 v11 y1 0 0)) → B64 f a o v8 v9 v10 v11 s0 s1 s2) →
  (∀ (f : sx_F) (a : sx_F) (o : sl_O) (v8 : Int32) (v9 : Int32) (v10 : Int32) (v11 : Int32) (v12 : Int32) (v13 : Int32) (v14 : Int32), (vp_in v10 30 ∧ (((a 1 v10.toNatClampNeg) ≤ v14 → (vp_in v10 30 ∧ ((8 ≤ (a 1 v10.toNatClampNeg) → B137 f a o v8 v9 v10 v11 v12) ∧ (¬ 8 ≤ (a 1 v10.toNatClampNeg) → (vp_in v9 6 ∧ (((a 3 v9.toNatClampNeg) < (v13 + v12) → B137 f a o v8 v9 v10 v11 v12) ∧ (¬ (a 3 v9.toNatClampNeg) < (v13 + v12) → (vp_in v10 30 ∧ ((60 ≤ (a 2 v10.toNatClampNeg) → B137 f a o v8 v9 v10 v11 v12) ∧ (¬ 60 ≤ (a 2 v10.toNatClampNeg) → B138 f a o v8 v9 v10 v11 v12 1)))))))))) ∧ (¬ (a 1 v10.toNatClampNeg) ≤ v14 → (P_L_length f a o v10 v14 (fun r6 => (∀ y10 : Int32, y10 = (v13 + r6) → (∀ y11 : Int32, y11 = v14 + 1 → B74 f a o v8 v9 v10 v11 v12 y10 y11))))))) → B74 f a o v8 v9 v10 v11 v12 v13 v14) →
  (∀ (f : sx_F) (a : sx_F) (o : sl_O) (v8 : Int32) (v9 : Int32) (v10 : Int32) (v11 : Int32) (v12 : Int32), B138 f a o v8 v9 v10 v11 v12 0 → B137 f a o v8 v9 v10 v11 v12) →
  (∀ (f : sx_F) (a : sx_F) (o : sl_O) (v8 : Int32) (v9 : Int32) (v10 : Int32) (v11 : Int32) (v12 : Int32) (s0 : Int32), (vp_in v10 30 ∧ (((a 2 v10.toNatClampNeg) < 60 → ((s0 = 0 → B214 f a o v8 v9 v10 v11 v12 s0) ∧ (¬ s0 = 0 → (vp_in v10 30 ∧ (vp_in v10 30 ∧ (vp_in v10 30 ∧ (vp_in v10 30 ∧ ∀ o14 : sl_O, o14 = sl_uL o 0 v10.toNatClampNeg (((o 0 v10.toNatClampNeg) &&& ((sl_shl (255 : Int64) (8 * (a 1 v10.toNatClampNeg))) ^^^ (-1 : Int64))) ||| (sl_shl ((v12 + (32 * v11)).toInt64) (8 * (a 1 v10.toNatClampNeg)))) → (vp_in v10 30 ∧ (vp_in v10 30 ∧ ∀ a15 : sx_F, a15 = sx_u a 1 v10.toNatClampNeg ((a 1 v10.toNatClampNeg) + 1) → (vp_in v10 30 ∧ (vp_in v10 30 ∧ ∀ a16 : sx_F, a16 = sx_u a15 2 v10.toNatClampNeg ((a15 2 v10.toNatClampNeg) + 1) → B214 f a16 o14 v8 v9 v10 v11 v12 s0))))))))))) ∧ (¬ (a 2 v10.toNatClampNeg) < 60 → Q 1 f a o))) → B138 f a o v8 v9 v10 v11 v12 s0) →
  (∀ (f : sx_F) (a : sx_F) (o : sl_O) (v8 : Int32) (v9 : Int32) (v10 : Int32) (v11 : Int32) (v12 : Int32) (v14 : Int32), (P_L_noted f a o v8 v9 v12 v11 (fun r17 g18 a18 o18 => ((v14 = 0 → B240 g18 a18 o18 r17 (-7)) ∧ (¬ v14 = 0 → (vp_in v10 30 ∧ B240 g18 a18 o18 r17 (a18 1 v10.toNatClampNeg)))))) → B214 f a o v8 v9 v10 v11 v12 v14) →
  (∀ (f : sx_F) (a : sx_F) (o : sl_O) (s0 : Int32) (s1 : Int32), ((s0 = s1 → Q 1 f a o) ∧ (¬ s0 = s1 → Q 0 f a o)) → B240 f a o s0 s1) →
  (∀ (f : sx_F) (a : sx_F) (o : sl_O) (v8 : Int32) (v9 : Int32) (v10 : Int32) (v12 : Int32) (s1 : Int32) (s2 : Int32) (s3 : Int32), (vp_in s1 30 ∧ ∀ a21 : sx_F, a21 = sx_u a 2 s1.toNatClampNeg (s2 + s3) → (vp_in v10 30 ∧ ∀ a22 : sx_F, a22 = sx_u a21 1 v10.toNatClampNeg 0 → (P_X6_empty f v8 v9 (fun r23 g24 => ((r23 = v12 → Q 1 g24 a22 o) ∧ (¬ r23 = v12 → Q 0 g24 a22 o))) (fun _ _ => False)))) → B286 f a o v8 v9 v10 v12 s1 s2 s3) →
  (∀ (f : sx_F) (a : sx_F) (o : sl_O) (v8 : Int32) (v9 : Int32) (v10 : Int32) (v11 : Int32), (vp_in v10 30 ∧ (((a 1 v10.toNatClampNeg) = 0 → B328 f a o v8 v9 v10) ∧ (¬ (a 1 v10.toNatClampNeg) = 0 → (vp_in v10 30 ∧ (((a 2 v10.toNatClampNeg) < 60 → (vp_in v10 30 ∧ (¬ (a 1 v10.toNatClampNeg) = 0 ∧ (∀ y28 : Int32, y28 = ((x7 / 210) - (x7 / 210) / (a 1 v10.toNatClampNeg) * (a 1 v10.toNatClampNeg)) → (P_L_pitch f a o v10 y28 (fun r29 => (vp_in v10 30 ∧ (vp_in v10 30 ∧ ∀ o33 : sl_O, o33 = sl_uL o 0 v10.toNatClampNeg (((o 0 v10.toNatClampNeg) &&& ((sl_shl (7 : Int64) ((8 * y28) + 5)) ^^^ (-1 : Int64))) ||| (sl_shl (v11.toInt64) ((8 * y28) + 5))) → (vp_in v10 30 ∧ ((r29 = v11 → B425 f a o33 v8 v9 v10 v11 y28 r29 v10 (a 2 v10.toNatClampNeg) 0) ∧ (¬ r29 = v11 → B425 f a o33 v8 v9 v10 v11 y28 r29 v10 (a 2 v10.toNatClampNeg) 1))))))))))) ∧ (¬ (a 2 v10.toNatClampNeg) < 60 → B328 f a o v8 v9 v10)))))) → B312 f a o v8 v9 v10 v11) →
  (∀ (f : sx_F) (a : sx_F) (o : sl_O) (v8 : Int32) (v9 : Int32) (v10 : Int32), (P_X6_notes f v8 v9 (fun r35 => (vp_in v10 30 ∧ ((r35 = (a 1 v10.toNatClampNeg) → Q 1 f a o) ∧ (¬ r35 = (a 1 v10.toNatClampNeg) → Q 0 f a o)))) (fun _ => False)) → B328 f a o v8 v9 v10) →
  (∀ (f : sx_F) (a : sx_F) (o : sl_O) (v8 : Int32) (v9 : Int32) (v10 : Int32) (v11 : Int32) (v12 : Int32) (v13 : Int32) (s1 : Int32) (s2 : Int32) (s3 : Int32), (vp_in s1 30 ∧ ∀ a38 : sx_F, a38 = sx_u a 2 s1.toNatClampNeg (s2 + s3) → (P_X6_mend f v8 v9 v12 v11 (fun r39 g40 => ((r39 = v13 → (P_X6_noteAt g40 v8 v9 v12 (fun r42 => (P_L_length g40 a38 o v10 v12 (fun r44 => ((r42 = ((100 * r44) + v11) → (P_X6_version g40 v8 v9 (fun r49 => (vp_in v10 30 ∧ ((r49 = (a38 2 v10.toNatClampNeg) → Q 1 g40 a38 o) ∧ (¬ r49 = (a38 2 v10.toNatClampNeg) → Q 0 g40 a38 o)))) (fun _ => False))) ∧ (¬ r42 = ((100 * r44) + v11) → Q 0 g40 a38 o))))) (fun _ => False))) ∧ (¬ r39 = v13 → Q 0 g40 a38 o))) (fun _ _ => False))) → B425 f a o v8 v9 v10 v11 v12 v13 s1 s2 s3) →
  (∀ y52 : Int32, y52 = (x7 - x7 / 5 * 5) → (vp_in 0 5 ∧ (¬ (a 7 (0 : Int32).toNatClampNeg) = 0 ∧ (∀ y53 : Int32, y53 = ((x7 / 5) - (x7 / 5) / (a 7 (0 : Int32).toNatClampNeg) * (a 7 (0 : Int32).toNatClampNeg)) → (∀ y54 : Int32, y54 = ((6 * y52) + y53) → (∀ y55 : Int32, y55 = ((x7 / 30) - (x7 / 30) / 7 * 7) → ((8 ≤ x6 → ((x6 = 8 → (vp_in y54 30 ∧ ((60 ≤ (a 2 y54.toNatClampNeg) → B312 f a o y52 y53 y54 y55) ∧ (¬ 60 ≤ (a 2 y54.toNatClampNeg) → (vp_in y54 30 ∧ (∀ y59 : Int32, y59 = (a 1 y54.toNatClampNeg) → (vp_in y54 30 ∧ ((y59 ≤ 0 → B286 f a o y52 y53 y54 y59 y54 (a 2 y54.toNatClampNeg) 0) ∧ (¬ y59 ≤ 0 → B286 f a o y52 y53 y54 y59 y54 (a 2 y54.toNatClampNeg) 1))))))))) ∧ (¬ x6 = 8 → B312 f a o y52 y53 y54 y55))) ∧ (¬ 8 ≤ x6 → (((x7 - x7 / 3 * 3) = 0 → B64 f a o y52 y53 y54 y55 1 (x7 / 210) 8) ∧ (¬ (x7 - x7 / 3 * 3) = 0 → B64 f a o y52 y53 y54 y55 1 (x7 / 210) 3))))))))))
def P_L_isCopied (f : sx_F) (a : sx_F) (o : sl_O) (x7 : Int32) (x8 : Int32) (Q : Int32 → sx_F → sx_F → sl_O → Prop) : Prop :=
  ∀ (B14 : sx_F → sx_F → sl_O → Prop),
  ∀ (B21 : sx_F → sx_F → sl_O → Prop),
  ∀ (B116 : sx_F → sx_F → sl_O → Int32 → Int32 → Int32 → Int32 → Prop),
  ∀ (B147 : sx_F → sx_F → sl_O → Int32 → Int32 → Int32 → Int32 → Int32 → Int32 → Prop),
  ∀ (B152 : sx_F → sx_F → sl_O → Int32 → Int32 → Int32 → Int32 → Int32 → Int32 → Int32 → Prop),
  ∀ (B194 : sx_F → sx_F → sl_O → Int32 → Int32 → Int32 → Int32 → Int32 → Int32 → Prop),
  ∀ (B198 : sx_F → sx_F → sl_O → Int32 → Int32 → Int32 → Int32 → Int32 → Int32 → Prop),
  ∀ (B199 : sx_F → sx_F → sl_O → Int32 → Int32 → Int32 → Int32 → Int32 → Int32 → Int32 → Prop),
  ∀ (B220 : sx_F → sx_F → sl_O → Int32 → Int32 → Int32 → Int32 → Int32 → Int32 → Int32 → Int32 → Prop),
  ∀ (B232 : sx_F → sx_F → sl_O → Int32 → Int32 → Int32 → Int32 → Int32 → Int32 → Int32 → Prop),
  ∀ (B272 : sx_F → sx_F → sl_O → Int32 → Int32 → Int32 → Int32 → Int32 → Int32 → Int32 → Int32 → Int32 → Prop),
  ∀ (B279 : sx_F → sx_F → sl_O → Int32 → Int32 → Int32 → Int32 → Int32 → Prop),
  ∀ (B300 : sx_F → sx_F → sl_O → Int32 → Int32 → Int32 → Int32 → Int32 → Int32 → Prop),
  ∀ (B321 : sx_F → sx_F → sl_O → Int32 → Int32 → Prop),
  ∀ (B368 : sx_F → sx_F → sl_O → Int32 → Int32 → Int32 → Int32 → Int32 → Int32 → Int32 → Prop),
  ∀ (B372 : sx_F → sx_F → sl_O → Int32 → Int32 → Int32 → Int32 → Int32 → Int32 → Prop),
  ∀ (B414 : sx_F → sx_F → sl_O → Int32 → Int32 → Int32 → Prop),
  ∀ (B436 : sx_F → sx_F → sl_O → Int32 → Int32 → Prop),
  ∀ (B494 : sx_F → sx_F → sl_O → Int32 → Int32 → Int32 → Int32 → Prop),
  ∀ (B495 : sx_F → sx_F → sl_O → Int32 → Int32 → Int32 → Int32 → Int32 → Prop),
  ∀ (B519 : sx_F → sx_F → sl_O → Int32 → Int32 → Int32 → Int32 → Int32 → Int32 → Prop),
  ∀ (B598 : sx_F → sx_F → sl_O → Int32 → Int32 → Int32 → Int32 → Int32 → Int32 → Int64 → Prop),
  ∀ (B621 : sx_F → sx_F → sl_O → Int32 → Int32 → Prop),
  ∀ (B713 : sx_F → sx_F → sl_O → Int32 → Int32 → Int32 → Int32 → Int32 → Int32 → Prop),
  ∀ (B714 : sx_F → sx_F → sl_O → Int32 → Int32 → Int32 → Int32 → Int32 → Int32 → Int32 → Prop),
  ∀ (B737 : sx_F → sx_F → sl_O → Int32 → Int32 → Int32 → Int32 → Int32 → Int32 → Int32 → Int32 → Prop),
  ∀ (B764 : sx_F → sx_F → sl_O → Int32 → Int32 → Int32 → Int32 → Int32 → Int32 → Int32 → Int32 → Prop),
  ∀ (B819 : sx_F → sx_F → sl_O → Int32 → Int32 → Int32 → Int32 → Int32 → Int32 → Int32 → Int64 → Prop),
  ∀ (B844 : sx_F → sx_F → sl_O → Int32 → Int32 → Prop),
  ∀ (B862 : sx_F → sx_F → sl_O → Int32 → Int32 → Int32 → Prop),
  ∀ (B890 : sx_F → sx_F → sl_O → Int32 → Int32 → Int32 → Int32 → Prop),
  ∀ (B914 : sx_F → sx_F → sl_O → Int32 → Int32 → Prop),
  ∀ (B915 : sx_F → sx_F → sl_O → Int32 → Int32 → Int32 → Prop),
  ∀ (B942 : sx_F → sx_F → sl_O → Int32 → Int32 → Int32 → Int32 → Prop),
  ∀ (B943 : sx_F → sx_F → sl_O → Int32 → Int32 → Int32 → Int32 → Int32 → Prop),
  ∀ (B964 : sx_F → sx_F → sl_O → Int32 → Prop),
  ∀ (B966 : sx_F → sx_F → sl_O → Int32 → Int32 → Prop),
  (∀ (f : sx_F) (a : sx_F) (o : sl_O), (vp_in 3 5 ∧ (((a 7 (3 : Int32).toNatClampNeg) = 0 → B21 f a o) ∧ (¬ (a 7 (3 : Int32).toNatClampNeg) = 0 → (vp_in 3 5 ∧ (¬ (a 7 (3 : Int32).toNatClampNeg) = 0 ∧ (∀ y2 : Int32, y2 = (x8 - x8 / (a 7 (3 : Int32).toNatClampNeg) * (a 7 (3 : Int32).toNatClampNeg)) → (∀ y3 : Int32, y3 = (8 * y2) → (vp_in y3 48 ∧ (∀ y4 : Int32, y4 = (6 * (a 4 y3.toNatClampNeg)) → (vp_in (y3 + 1) 48 ∧ (((a 4 (y3 + 1).toNatClampNeg) < 0 → B116 f a o y2 y3 y4 0) ∧ (¬ (a 4 (y3 + 1).toNatClampNeg) < 0 → B116 f a o y2 y3 y4 1)))))))))))) → B14 f a o) →
  (∀ (f : sx_F) (a : sx_F) (o : sl_O), (vp_in 3 5 ∧ (vp_in (8 * (a 7 (3 : Int32).toNatClampNeg)) 48 ∧ ∀ a6 : sx_F, a6 = sx_u a 4 (8 * (a 7 (3 : Int32).toNatClampNeg)).toNatClampNeg (x8 - x8 / 3 * 3) → (vp_in 3 5 ∧ (vp_in ((8 * (a6 7 (3 : Int32).toNatClampNeg)) + 1) 48 ∧ ∀ a7 : sx_F, a7 = sx_u a6 4 ((8 * (a6 7 (3 : Int32).toNatClampNeg)) + 1).toNatClampNeg (-1) → (vp_in 3 5 ∧ (vp_in 3 5 ∧ ∀ a8 : sx_F, a8 = sx_u a7 7 (3 : Int32).toNatClampNeg ((a7 7 (3 : Int32).toNatClampNeg) + 1) → (P_X6_copy f (x8 - x8 / 3 * 3) (fun r9 g10 => (vp_in 3 5 ∧ ((r9 = ((a8 7 (3 : Int32).toNatClampNeg) - 1) → Q 1 g10 a8 o) ∧ (¬ r9 = ((a8 7 (3 : Int32).toNatClampNeg) - 1) → Q 0 g10 a8 o)))) (fun _ _ => False)))))))) → B21 f a o) →
  (∀ (f : sx_F) (a : sx_F) (o : sl_O) (v9 : Int32) (v10 : Int32) (v11 : Int32) (s0 : Int32), ((3 ≤ x7 → ((5 ≤ x7 → (vp_in 0 5 ∧ (¬ (a 7 (0 : Int32).toNatClampNeg) = 0 ∧ (∀ y14 : Int32, y14 = ((x8 / 6) - (x8 / 6) / (a 7 (0 : Int32).toNatClampNeg) * (a 7 (0 : Int32).toNatClampNeg)) → ((x7 = 5 → (∀ y29 : Int32, y29 = ((x8 / 36) - (x8 / 36) / 10 * 10) → ((s0 = 0 → B494 f a o v9 v10 y14 y29) ∧ (¬ s0 = 0 → (vp_in ((v10 + 2) + y14) 48 ∧ (((a 4 ((v10 + 2) + y14).toNatClampNeg) < 0 → B494 f a o v9 v10 y14 y29) ∧ (¬ (a 4 ((v10 + 2) + y14).toNatClampNeg) < 0 → B495 f a o v9 v10 y14 y29 1))))))) ∧ (¬ x7 = 5 → ((8 ≤ x7 → B862 f a o 0 1 0) ∧ (¬ 8 ≤ x7 → (∀ y17 : Int32, y17 = ((x8 / 36) - (x8 / 36) / 3 * 3) → (∀ y18 : Int32, y18 = (v11 + y14) → (vp_in v10 48 ∧ ((1 < (a 4 v10.toNatClampNeg) → Q 1 f a o) ∧ (¬ 1 < (a 4 v10.toNatClampNeg) → (vp_in (v10 + 1) 48 ∧ ((3 < (a 4 (v10 + 1).toNatClampNeg) → Q 1 f a o) ∧ (¬ 3 < (a 4 (v10 + 1).toNatClampNeg) → (vp_in y18 30 ∧ (((a 1 y18.toNatClampNeg) = 0 → Q 1 f a o) ∧ (¬ (a 1 y18.toNatClampNeg) = 0 → (vp_in y18 30 ∧ (¬ (a 1 y18.toNatClampNeg) = 0 ∧ (∀ y22 : Int32, y22 = ((x8 / 108) - (x8 / 108) / (a 1 y18.toNatClampNeg) * (a 1 y18.toNatClampNeg)) → ((s0 = 0 → B713 f a o v9 v10 y18 y14 y17 y22) ∧ (¬ s0 = 0 → (P_L_owes f a o v9 y14 (fun r24 => ((r24 = 0 → B714 f a o v9 v10 y18 y14 y17 y22 1) ∧ (¬ r24 = 0 → B713 f a o v9 v10 y18 y14 y17 y22)))))))))))))))))))))))))))) ∧ (¬ 5 ≤ x7 → (P_L_owed f a o v9 (fun r32 => ((x7 = 3 → B368 f a o v9 v10 v11 s0 r32 (v10 + 1) (-1)) ∧ (¬ x7 = 3 → (vp_in (v10 + 1) 48 ∧ B368 f a o v9 v10 v11 s0 r32 (v10 + 1) (a 4 (v10 + 1).toNatClampNeg))))))))) ∧ (¬ 3 ≤ x7 → (∀ y37 : Int32, y37 = ((x8 / 6) - (x8 / 6) / 6 * 6) → ((s0 = 0 → B147 f a o v9 v10 v11 y37 1 1) ∧ (¬ s0 = 0 → B147 f a o v9 v10 v11 y37 1 0))))) → B116 f a o v9 v10 v11 s0) →
  (∀ (f : sx_F) (a : sx_F) (o : sl_O) (v9 : Int32) (v10 : Int32) (v11 : Int32) (v13 : Int32) (v14 : Int32) (s0 : Int32), B152 f a o v9 v10 v11 v13 v14 s0 0 → B147 f a o v9 v10 v11 v13 v14 s0) →
  (∀ (f : sx_F) (a : sx_F) (o : sl_O) (v9 : Int32) (v10 : Int32) (v11 : Int32) (v13 : Int32) (v14 : Int32) (v15 : Int32) (v16 : Int32), (vp_in 3 5 ∧ (((a 7 (3 : Int32).toNatClampNeg) ≤ v16 → B232 f a o v9 v10 v11 v13 v14 v15 0) ∧ (¬ (a 7 (3 : Int32).toNatClampNeg) ≤ v16 → ((v15 = 0 → B198 f a o v9 v10 v11 v13 v14 v16) ∧ (¬ v15 = 0 → (vp_in ((8 * v16) + 1) 48 ∧ (((a 4 ((8 * v16) + 1).toNatClampNeg) = v13 → (vp_in (8 * v16) 48 ∧ (vp_in v10 48 ∧ (((a 4 (8 * v16).toNatClampNeg) = (a 4 v10.toNatClampNeg) → B198 f a o v9 v10 v11 v13 v14 v16) ∧ (¬ (a 4 (8 * v16).toNatClampNeg) = (a 4 v10.toNatClampNeg) → B194 f a o v9 v10 v11 v13 v14 v16))))) ∧ (¬ (a 4 ((8 * v16) + 1).toNatClampNeg) = v13 → B194 f a o v9 v10 v11 v13 v14 v16)))))))) → B152 f a o v9 v10 v11 v13 v14 v15 v16) →
  (∀ (f : sx_F) (a : sx_F) (o : sl_O) (v9 : Int32) (v10 : Int32) (v11 : Int32) (v13 : Int32) (v14 : Int32) (v16 : Int32), B199 f a o v9 v10 v11 v13 v14 v16 1 → B194 f a o v9 v10 v11 v13 v14 v16) →
  (∀ (f : sx_F) (a : sx_F) (o : sl_O) (v9 : Int32) (v10 : Int32) (v11 : Int32) (v13 : Int32) (v14 : Int32) (v16 : Int32), B199 f a o v9 v10 v11 v13 v14 v16 0 → B198 f a o v9 v10 v11 v13 v14 v16) →
  (∀ (f : sx_F) (a : sx_F) (o : sl_O) (v9 : Int32) (v10 : Int32) (v11 : Int32) (v13 : Int32) (v14 : Int32) (v16 : Int32) (s0 : Int32), (vp_in ((8 * v16) + 1) 48 ∧ (((a 4 ((8 * v16) + 1).toNatClampNeg) < 0 → B220 f a o v9 v10 v11 v13 s0 v16 v14 0) ∧ (¬ (a 4 ((8 * v16) + 1).toNatClampNeg) < 0 → B220 f a o v9 v10 v11 v13 s0 v16 v14 1))) → B199 f a o v9 v10 v11 v13 v14 v16 s0) →
  (∀ (f : sx_F) (a : sx_F) (o : sl_O) (v9 : Int32) (v10 : Int32) (v11 : Int32) (v13 : Int32) (v15 : Int32) (v16 : Int32) (s0 : Int32) (s1 : Int32), (∀ y44 : Int32, y44 = (s0 + s1) → (∀ y45 : Int32, y45 = v16 + 1 → B152 f a o v9 v10 v11 v13 y44 v15 y45)) → B220 f a o v9 v10 v11 v13 v15 v16 s0 s1) →
  (∀ (f : sx_F) (a : sx_F) (o : sl_O) (v9 : Int32) (v10 : Int32) (v11 : Int32) (v13 : Int32) (v14 : Int32) (v15 : Int32) (v16 : Int32), ((6 ≤ v16 → B279 f a o v9 v10 v13 v14 v15) ∧ (¬ 6 ≤ v16 → ((v15 = 0 → B279 f a o v9 v10 v13 v14 v15) ∧ (¬ v15 = 0 → (vp_in 0 5 ∧ (((a 7 (0 : Int32).toNatClampNeg) ≤ v16 → B272 f a o v9 v10 v11 v13 v14 v15 v16 ((v10 + 2) + v16) (-1)) ∧ (¬ (a 7 (0 : Int32).toNatClampNeg) ≤ v16 → (vp_in (v11 + v16) 30 ∧ B272 f a o v9 v10 v11 v13 v14 v15 v16 ((v10 + 2) + v16) (a 2 (v11 + v16).toNatClampNeg))))))))) → B232 f a o v9 v10 v11 v13 v14 v15 v16) →
  (∀ (f : sx_F) (a : sx_F) (o : sl_O) (v9 : Int32) (v10 : Int32) (v11 : Int32) (v13 : Int32) (v14 : Int32) (v15 : Int32) (v16 : Int32) (s1 : Int32) (s2 : Int32), (vp_in s1 48 ∧ ∀ a49 : sx_F, a49 = sx_u a 4 s1.toNatClampNeg s2 → (∀ y50 : Int32, y50 = v16 + 1 → B232 f a49 o v9 v10 v11 v13 v14 v15 y50)) → B272 f a o v9 v10 v11 v13 v14 v15 v16 s1 s2) →
  (∀ (f : sx_F) (a : sx_F) (o : sl_O) (v9 : Int32) (v10 : Int32) (v13 : Int32) (v14 : Int32) (v15 : Int32), ((v15 = 0 → (vp_in (v10 + 1) 48 ∧ B300 f a o v9 v13 v14 v15 (v10 + 1) (a 4 (v10 + 1).toNatClampNeg))) ∧ (¬ v15 = 0 → B300 f a o v9 v13 v14 v15 (v10 + 1) v13)) → B279 f a o v9 v10 v13 v14 v15) →
  (∀ (f : sx_F) (a : sx_F) (o : sl_O) (v9 : Int32) (v13 : Int32) (v14 : Int32) (v15 : Int32) (s1 : Int32) (s2 : Int32), (vp_in s1 48 ∧ ∀ a52 : sx_F, a52 = sx_u a 4 s1.toNatClampNeg s2 → (P_L_lent f a52 o v9 v13 (fun r53 g54 a54 o54 => ((v15 = 0 → B321 g54 a54 o54 r53 (-7)) ∧ (¬ v15 = 0 → B321 g54 a54 o54 r53 v14))))) → B300 f a o v9 v13 v14 v15 s1 s2) →
  (∀ (f : sx_F) (a : sx_F) (o : sl_O) (s0 : Int32) (s1 : Int32), ((s0 = s1 → Q 1 f a o) ∧ (¬ s0 = s1 → Q 0 f a o)) → B321 f a o s0 s1) →
  (∀ (f : sx_F) (a : sx_F) (o : sl_O) (v9 : Int32) (v10 : Int32) (v11 : Int32) (v12 : Int32) (v13 : Int32) (s1 : Int32) (s2 : Int32), (vp_in s1 48 ∧ ∀ a57 : sx_F, a57 = sx_u a 4 s1.toNatClampNeg s2 → B372 f a57 o v9 v10 v11 v12 v13 0) → B368 f a o v9 v10 v11 v12 v13 s1 s2) →
  (∀ (f : sx_F) (a : sx_F) (o : sl_O) (v9 : Int32) (v10 : Int32) (v11 : Int32) (v12 : Int32) (v13 : Int32) (v14 : Int32), (vp_in 0 5 ∧ (((a 7 (0 : Int32).toNatClampNeg) ≤ v14 → B414 f a o v9 v12 v13) ∧ (¬ (a 7 (0 : Int32).toNatClampNeg) ≤ v14 → ((v12 = 0 → B414 f a o v9 v12 v13) ∧ (¬ v12 = 0 → ((x7 = 4 → (vp_in (v11 + v14) 30 ∧ (vp_in ((v10 + 2) + v14) 48 ∧ ∀ a61 : sx_F, a61 = sx_u a 4 ((v10 + 2) + v14).toNatClampNeg (a 2 (v11 + v14).toNatClampNeg) → (∀ y62 : Int32, y62 = v14 + 1 → B372 f a61 o v9 v10 v11 v12 v13 y62)))) ∧ (¬ x7 = 4 → B414 f a o v9 v12 v13))))))) → B372 f a o v9 v10 v11 v12 v13 v14) →
  (∀ (f : sx_F) (a : sx_F) (o : sl_O) (v9 : Int32) (v12 : Int32) (v13 : Int32), (P_L_did f a o (x7 - 3) v9 (fun r63 g64 a64 o64 => ((v12 = 0 → B436 g64 a64 o64 r63 (-7)) ∧ (¬ v12 = 0 → B436 g64 a64 o64 r63 v13)))) → B414 f a o v9 v12 v13) →
  (∀ (f : sx_F) (a : sx_F) (o : sl_O) (s0 : Int32) (s1 : Int32), ((s0 = s1 → Q 1 f a o) ∧ (¬ s0 = s1 → Q 0 f a o)) → B436 f a o s0 s1) →
  (∀ (f : sx_F) (a : sx_F) (o : sl_O) (v9 : Int32) (v10 : Int32) (v13 : Int32) (v14 : Int32), B495 f a o v9 v10 v13 v14 0 → B494 f a o v9 v10 v13 v14) →
  (∀ (f : sx_F) (a : sx_F) (o : sl_O) (v9 : Int32) (v10 : Int32) (v13 : Int32) (v14 : Int32) (s0 : Int32), ((s0 = 0 → B519 f a o v9 v10 v13 v14 s0 0) ∧ (¬ s0 = 0 → (vp_in (v10 + 1) 48 ∧ (vp_in v10 48 ∧ B519 f a o v9 v10 v13 v14 s0 ((5 * (a 4 (v10 + 1).toNatClampNeg)) + (a 4 v10.toNatClampNeg)))))) → B495 f a o v9 v10 v13 v14 s0) →
  (∀ (f : sx_F) (a : sx_F) (o : sl_O) (v9 : Int32) (v10 : Int32) (v13 : Int32) (v14 : Int32) (v15 : Int32) (s0 : Int32), (vp_in s0 30 ∧ (∀ y68 : Int32, y68 = ((sl_shr (o 5 s0.toNatClampNeg) (10 * v13)) &&& (15 : Int64)).toInt32 → ((v15 = 0 → (vp_in s0 30 ∧ B598 f a o v9 v13 v14 v15 y68 s0 (o 5 s0.toNatClampNeg))) ∧ (¬ v15 = 0 → (vp_in s0 30 ∧ (vp_in ((v10 + 2) + v13) 48 ∧ B598 f a o v9 v13 v14 v15 y68 s0 (((o 5 s0.toNatClampNeg) &&& ((sl_shl (1023 : Int64) (10 * v13)) ^^^ (-1 : Int64))) ||| (sl_shl ((v14 + (16 * (a 4 ((v10 + 2) + v13).toNatClampNeg))).toInt64) (10 * v13))))))))) → B519 f a o v9 v10 v13 v14 v15 s0) →
  (∀ (f : sx_F) (a : sx_F) (o : sl_O) (v9 : Int32) (v13 : Int32) (v14 : Int32) (v15 : Int32) (v17 : Int32) (s1 : Int32) (s2 : Int64), (vp_in s1 30 ∧ ∀ o70 : sl_O, o70 = sl_uL o 5 s1.toNatClampNeg s2 → (P_L_marked f a o70 v9 v13 v14 (fun r71 g72 a72 o72 => ((v15 = 0 → B621 g72 a72 o72 r71 (-7)) ∧ (¬ v15 = 0 → B621 g72 a72 o72 r71 v17))))) → B598 f a o v9 v13 v14 v15 v17 s1 s2) →
  (∀ (f : sx_F) (a : sx_F) (o : sl_O) (s0 : Int32) (s1 : Int32), ((s0 = s1 → Q 1 f a o) ∧ (¬ s0 = s1 → Q 0 f a o)) → B621 f a o s0 s1) →
  (∀ (f : sx_F) (a : sx_F) (o : sl_O) (v9 : Int32) (v10 : Int32) (v11 : Int32) (v13 : Int32) (v14 : Int32) (v15 : Int32), B714 f a o v9 v10 v11 v13 v14 v15 0 → B713 f a o v9 v10 v11 v13 v14 v15) →
  (∀ (f : sx_F) (a : sx_F) (o : sl_O) (v9 : Int32) (v10 : Int32) (v11 : Int32) (v13 : Int32) (v14 : Int32) (v15 : Int32) (s0 : Int32), ((s0 = 0 → B737 f a o v9 v10 v11 v13 v14 v15 s0 0) ∧ (¬ s0 = 0 → (vp_in (v10 + 1) 48 ∧ B737 f a o v9 v10 v11 v13 v14 v15 s0 ((12 * (a 4 (v10 + 1).toNatClampNeg)) + v11)))) → B714 f a o v9 v10 v11 v13 v14 v15 s0) →
  (∀ (f : sx_F) (a : sx_F) (o : sl_O) (v9 : Int32) (v10 : Int32) (v11 : Int32) (v13 : Int32) (v14 : Int32) (v15 : Int32) (v16 : Int32) (s0 : Int32), ((v16 = 0 → B764 f a o v9 v11 v13 v14 v15 v16 s0 0) ∧ (¬ v16 = 0 → (vp_in (v10 + 1) 48 ∧ (P_L_bowing f a o (a 4 (v10 + 1).toNatClampNeg) v11 v15 (fun r77 => B764 f a o v9 v11 v13 v14 v15 v16 s0 r77))))) → B737 f a o v9 v10 v11 v13 v14 v15 v16 s0) →
  (∀ (f : sx_F) (a : sx_F) (o : sl_O) (v9 : Int32) (v11 : Int32) (v13 : Int32) (v14 : Int32) (v15 : Int32) (v16 : Int32) (v17 : Int32) (s0 : Int32), ((v16 = 0 → (vp_in v17 48 ∧ B819 f a o v9 v13 v14 v15 v16 s0 v17 (o 6 v17.toNatClampNeg))) ∧ (¬ v16 = 0 → (vp_in v17 48 ∧ (vp_in v11 30 ∧ B819 f a o v9 v13 v14 v15 v16 s0 v17 (((o 6 v17.toNatClampNeg) &&& ((sl_shl (255 : Int64) (8 * v15)) ^^^ (-1 : Int64))) ||| (sl_shl ((v14 + (4 * (a 2 v11.toNatClampNeg))).toInt64) (8 * v15))))))) → B764 f a o v9 v11 v13 v14 v15 v16 v17 s0) →
  (∀ (f : sx_F) (a : sx_F) (o : sl_O) (v9 : Int32) (v13 : Int32) (v14 : Int32) (v15 : Int32) (v16 : Int32) (v18 : Int32) (s1 : Int32) (s2 : Int64), (vp_in s1 48 ∧ ∀ o82 : sl_O, o82 = sl_uL o 6 s1.toNatClampNeg s2 → (P_L_bowed f a o82 v9 v13 v15 v14 (fun r83 g84 a84 o84 => ((v16 = 0 → B844 g84 a84 o84 r83 (-7)) ∧ (¬ v16 = 0 → B844 g84 a84 o84 r83 v18))))) → B819 f a o v9 v13 v14 v15 v16 v18 s1 s2) →
  (∀ (f : sx_F) (a : sx_F) (o : sl_O) (s0 : Int32) (s1 : Int32), ((s0 = s1 → Q 1 f a o) ∧ (¬ s0 = s1 → Q 0 f a o)) → B844 f a o s0 s1) →
  (∀ (f : sx_F) (a : sx_F) (o : sl_O) (v14 : Int32) (v15 : Int32) (v16 : Int32), (vp_in 3 5 ∧ (((a 7 (3 : Int32).toNatClampNeg) ≤ v16 → (vp_in 4 5 ∧ ((v14 ≤ 0 → B942 f a o v14 v15 4 (a 7 (4 : Int32).toNatClampNeg)) ∧ (¬ v14 ≤ 0 → ((v15 = 0 → B942 f a o v14 v15 4 (a 7 (4 : Int32).toNatClampNeg)) ∧ (¬ v15 = 0 → B943 f a o v14 v15 4 (a 7 (4 : Int32).toNatClampNeg) 1)))))) ∧ (¬ (a 7 (3 : Int32).toNatClampNeg) ≤ v16 → (vp_in ((8 * v16) + 1) 48 ∧ (((a 4 ((8 * v16) + 1).toNatClampNeg) < 0 → B890 f a o v15 v16 v14 0) ∧ (¬ (a 4 ((8 * v16) + 1).toNatClampNeg) < 0 → B890 f a o v15 v16 v14 1)))))) → B862 f a o v14 v15 v16) →
  (∀ (f : sx_F) (a : sx_F) (o : sl_O) (v15 : Int32) (v16 : Int32) (s0 : Int32) (s1 : Int32), (∀ y91 : Int32, y91 = (s0 + s1) → ((v15 = 0 → B914 f a o y91 v16) ∧ (¬ v15 = 0 → (P_L_owed f a o v16 (fun r93 => ((r93 = 0 → B915 f a o y91 v16 1) ∧ (¬ r93 = 0 → B914 f a o y91 v16))))))) → B890 f a o v15 v16 s0 s1) →
  (∀ (f : sx_F) (a : sx_F) (o : sl_O) (v14 : Int32) (v16 : Int32), B915 f a o v14 v16 0 → B914 f a o v14 v16) →
  (∀ (f : sx_F) (a : sx_F) (o : sl_O) (v14 : Int32) (v16 : Int32) (s0 : Int32), (∀ y98 : Int32, y98 = v16 + 1 → B862 f a o v14 s0 y98) → B915 f a o v14 v16 s0) →
  (∀ (f : sx_F) (a : sx_F) (o : sl_O) (v14 : Int32) (v15 : Int32) (s1 : Int32) (s2 : Int32), B943 f a o v14 v15 s1 s2 0 → B942 f a o v14 v15 s1 s2) →
  (∀ (f : sx_F) (a : sx_F) (o : sl_O) (v14 : Int32) (v15 : Int32) (s1 : Int32) (s2 : Int32) (s3 : Int32), (vp_in s1 5 ∧ ∀ a99 : sx_F, a99 = sx_u a 7 s1.toNatClampNeg (s2 + s3) → (P_L_played f a99 o (fun r100 g101 a101 o101 => ((v14 ≤ 0 → B964 g101 a101 o101 r100) ∧ (¬ v14 ≤ 0 → ((v15 = 0 → B964 g101 a101 o101 r100) ∧ (¬ v15 = 0 → B966 g101 a101 o101 r100 v14))))))) → B943 f a o v14 v15 s1 s2 s3) →
  (∀ (f : sx_F) (a : sx_F) (o : sl_O) (s0 : Int32), B966 f a o s0 (-7) → B964 f a o s0) →
  (∀ (f : sx_F) (a : sx_F) (o : sl_O) (s0 : Int32) (s1 : Int32), ((s0 = s1 → Q 1 f a o) ∧ (¬ s0 = s1 → Q 0 f a o)) → B966 f a o s0 s1) →
  ((x7 = 0 → (vp_in 3 5 ∧ (((a 7 (3 : Int32).toNatClampNeg) < 6 → B21 f a o) ∧ (¬ (a 7 (3 : Int32).toNatClampNeg) < 6 → B14 f a o)))) ∧ (¬ x7 = 0 → B14 f a o))
