def P_X7_thrown (f : sx_F)  (Q : Int32 → Prop) : Prop :=
  Q (f 0 33)
def P_X7_in (f : sx_F) (x0 : Int32) (x1 : Int32) (x2 : Int32) (Q : Int32 → Prop) : Prop :=
  ((x0 < x1 → Q 0) ∧ (¬ x0 < x1 → ((x2 < x0 → Q 0) ∧ (¬ x2 < x0 → Q 1))))
def P_X7_goes (f : sx_F) (x1 : Int32) (x2 : Int32) (x3 : Int32) (Q : Int32 → sx_F → Prop) : Prop :=
  ∀ (B26 : sx_F → Int32 → Prop),
  (∀ (f : sx_F) (s1 : Int32), (∀ g1 : sx_F, g1 = sx_u f 0 33 s1 → (((g1 0 33) = 0 → Q 1 g1) ∧ (¬ (g1 0 33) = 0 → Q 0 g1))) → B26 f s1) →
  ((x1 = 0 → B26 f 1) ∧ (¬ x1 = 0 → ((x2 = 0 → B26 f 2) ∧ (¬ x2 = 0 → ((x3 = 0 → B26 f 3) ∧ (¬ x3 = 0 → B26 f 0))))))
def P_X7_isInstrument (f : sx_F) (x0 : Int32) (Q : Int32 → Prop) : Prop :=
  (P_X7_in f x0 0 4 (fun r1 => ((r1 = 0 ∨ r1 = 1) ∧ Q r1)))
def P_X7_isBar (f : sx_F) (x1 : Int32) (Q : Int32 → Prop) : Prop :=
  (P_X7_in f x1 0 ((f 0 5) - 1) (fun r1 => ((r1 = 0 ∨ r1 = 1) ∧ Q r1)))
def P_X7_isBook (f : sx_F) (x0 : Int32) (Q : Int32 → Prop) : Prop :=
  (P_X7_in f x0 0 5 (fun r1 => ((r1 = 0 ∨ r1 = 1) ∧ Q r1)))
def P_X7_isCopy (f : sx_F) (x1 : Int32) (Q : Int32 → Prop) : Prop :=
  (P_X7_in f x1 0 ((f 0 11) - 1) (fun r1 => ((r1 = 0 ∨ r1 = 1) ∧ Q r1)))
def P_X7_cell (f : sx_F) (x0 : Int32) (x1 : Int32) (Q : Int32 → Prop) : Prop :=
  Q ((12 * x0) + x1)
def P_X7_bar (f : sx_F) (x1 : Int32) (Q : Int32 → sx_F → Prop) : Prop :=
  ∀ (B22 : sx_F → Int32 → Int32 → Prop),
  (∀ (f : sx_F) (s1 : Int32) (s2 : Int32), (P_X7_goes f s1 s2 1 (fun r2 g1 => ((r2 = 0 → Q 0 g1) ∧ (¬ r2 = 0 → (vp_in (g1 0 5) 12 ∧ ∀ g4 : sx_F, g4 = sx_u g1 1 (g1 0 5).toNatClampNeg x1 → (∀ g5 : sx_F, g5 = sx_u g4 0 5 ((g4 0 5) + 1) → Q ((g5 0 5) - 1) g5)))))) → B22 f s1 s2) →
  (P_X7_in f x1 1 32 (fun r6 => ((12 ≤ (f 0 5) → B22 f r6 0) ∧ (¬ 12 ≤ (f 0 5) → B22 f r6 1))))
def P_X7_filled (f : sx_F) (x1 : Int32) (x2 : Int32) (Q : Int32 → Prop) : Prop :=
  ∀ (B5 : Int32 → Int32 → Prop),
  (∀ (v3 : Int32) (v4 : Int32), ((x2 ≤ v4 → Q v3) ∧ (¬ x2 ≤ v4 → (vp_in ((8 * x1) + v4) 480 ∧ (∀ y2 : Int32, y2 = (v3 + (f 2 ((8 * x1) + v4).toNatClampNeg)) → (∀ y3 : Int32, y3 = v4 + 1 → B5 y2 y3))))) → B5 v3 v4) →
  B5 0 0
def P_X7_note (f : sx_F) (x1 : Int32) (x2 : Int32) (x3 : Int32) (x4 : Int32) (Q : Int32 → sx_F → Prop) : Prop :=
  ∀ (B19 : sx_F → Prop),
  ∀ (B20 : sx_F → Int32 → Prop),
  ∀ (B47 : sx_F → Int32 → Prop),
  ∀ (B48 : sx_F → Int32 → Int32 → Prop),
  ∀ (B64 : sx_F → Int32 → Int32 → Int32 → Prop),
  ∀ (B116 : sx_F → Int32 → Int32 → Int32 → Prop),
  ∀ (B117 : sx_F → Int32 → Int32 → Int32 → Int32 → Prop),
  (∀ (f : sx_F), B20 f 0 → B19 f) →
  (∀ (f : sx_F) (s0 : Int32), (P_X7_in f x3 1 32 (fun r1 => ((r1 = 0 → B47 f s0) ∧ (¬ r1 = 0 → (P_X7_in f x4 0 60 (fun r4 => ((r4 = 0 → B47 f s0) ∧ (¬ r4 = 0 → B48 f s0 1)))))))) → B20 f s0) →
  (∀ (f : sx_F) (v5 : Int32), B48 f v5 0 → B47 f v5) →
  (∀ (f : sx_F) (v5 : Int32) (s0 : Int32), ((v5 = 0 → B64 f v5 s0 0) ∧ (¬ v5 = 0 → (P_X7_cell f x1 x2 (fun r8 => B64 f v5 s0 r8)))) → B48 f v5 s0) →
  (∀ (f : sx_F) (v5 : Int32) (v6 : Int32) (s0 : Int32), ((v5 = 0 → B116 f v5 v6 s0) ∧ (¬ v5 = 0 → (vp_in s0 60 ∧ ((8 ≤ (f 4 s0.toNatClampNeg) → B116 f v5 v6 s0) ∧ (¬ 8 ≤ (f 4 s0.toNatClampNeg) → ((v6 = 0 → B116 f v5 v6 s0) ∧ (¬ v6 = 0 → (vp_in s0 60 ∧ (P_X7_filled f s0 (f 4 s0.toNatClampNeg) (fun r13 => (vp_in x2 12 ∧ (((f 1 x2.toNatClampNeg) < (r13 + x3) → B116 f v5 v6 s0) ∧ (¬ (f 1 x2.toNatClampNeg) < (r13 + x3) → B117 f v5 v6 s0 1))))))))))))) → B64 f v5 v6 s0) →
  (∀ (f : sx_F) (v5 : Int32) (v6 : Int32) (v7 : Int32), B117 f v5 v6 v7 0 → B116 f v5 v6 v7) →
  (∀ (f : sx_F) (v5 : Int32) (v6 : Int32) (v7 : Int32) (s0 : Int32), (P_X7_goes f v5 v6 s0 (fun r17 g16 => ((r17 = 0 → Q 0 g16) ∧ (¬ r17 = 0 → (vp_in v7 60 ∧ (vp_in ((8 * v7) + (g16 4 v7.toNatClampNeg)) 480 ∧ ∀ g19 : sx_F, g19 = sx_u g16 2 ((8 * v7) + (g16 4 v7.toNatClampNeg)).toNatClampNeg x3 → (vp_in v7 60 ∧ (vp_in ((8 * v7) + (g19 4 v7.toNatClampNeg)) 480 ∧ ∀ g20 : sx_F, g20 = sx_u g19 3 ((8 * v7) + (g19 4 v7.toNatClampNeg)).toNatClampNeg x4 → (vp_in v7 60 ∧ (vp_in v7 60 ∧ ∀ g21 : sx_F, g21 = sx_u g20 4 v7.toNatClampNeg ((g20 4 v7.toNatClampNeg) + 1) → (vp_in v7 60 ∧ (vp_in v7 60 ∧ ∀ g22 : sx_F, g22 = sx_u g21 5 v7.toNatClampNeg ((g21 5 v7.toNatClampNeg) + 1) → (vp_in v7 60 ∧ Q (g22 4 v7.toNatClampNeg) g22))))))))))))) → B117 f v5 v6 v7 s0) →
  (P_X7_isInstrument f x1 (fun r23 => ((r23 = 0 → B19 f) ∧ (¬ r23 = 0 → (P_X7_isBar f x2 (fun r26 => ((r26 = 0 → B19 f) ∧ (¬ r26 = 0 → B20 f 1))))))))
def P_X7_isNote (f : sx_F) (x1 : Int32) (x2 : Int32) (x3 : Int32) (Q : Int32 → Prop) : Prop :=
  (P_X7_isInstrument f x1 (fun r1 => ((r1 = 0 → Q 0) ∧ (¬ r1 = 0 → (P_X7_isBar f x2 (fun r4 => ((r4 = 0 → Q 0) ∧ (¬ r4 = 0 → (P_X7_cell f x1 x2 (fun r7 => (vp_in r7 60 ∧ (P_X7_in f x3 0 ((f 4 r7.toNatClampNeg) - 1) (fun r9 => ((r9 = 0 → Q 0) ∧ (¬ r9 = 0 → Q 1)))))))))))))))
def P_X7_mend (f : sx_F) (x1 : Int32) (x2 : Int32) (x3 : Int32) (x4 : Int32) (Q : Int32 → sx_F → Prop) : Prop :=
  ∀ (B84 : sx_F → Int32 → Int32 → Int32 → Int32 → Prop),
  (∀ (f : sx_F) (v7 : Int32) (s1 : Int32) (s2 : Int32) (s3 : Int32), (vp_in s1 60 ∧ ∀ g1 : sx_F, g1 = sx_u f 5 s1.toNatClampNeg (s2 + s3) → Q v7 g1) → B84 f v7 s1 s2 s3) →
  (P_X7_isNote f x1 x2 x3 (fun r2 => (P_X7_in f x4 0 60 (fun r4 => (P_X7_goes f r2 r4 1 (fun r7 g6 => ((r7 = 0 → Q 0 g6) ∧ (¬ r7 = 0 → (P_X7_cell g6 x1 x2 (fun r9 => (vp_in ((8 * r9) + x3) 480 ∧ (∀ y11 : Int32, y11 = (g6 3 ((8 * r9) + x3).toNatClampNeg) → (vp_in ((8 * r9) + x3) 480 ∧ ∀ g12 : sx_F, g12 = sx_u g6 3 ((8 * r9) + x3).toNatClampNeg x4 → (vp_in r9 60 ∧ ((y11 = x4 → B84 g12 y11 r9 (g12 5 r9.toNatClampNeg) 0) ∧ (¬ y11 = x4 → B84 g12 y11 r9 (g12 5 r9.toNatClampNeg) 1))))))))))))))))
def P_X7_empty (f : sx_F) (x1 : Int32) (x2 : Int32) (Q : Int32 → sx_F → Prop) : Prop :=
  ∀ (B20 : sx_F → Prop),
  ∀ (B21 : sx_F → Int32 → Prop),
  ∀ (B69 : sx_F → Int32 → Int32 → Int32 → Int32 → Prop),
  (∀ (f : sx_F), B21 f 0 → B20 f) →
  (∀ (f : sx_F) (s1 : Int32), (P_X7_goes f s1 1 1 (fun r2 g1 => ((r2 = 0 → Q 0 g1) ∧ (¬ r2 = 0 → (P_X7_cell g1 x1 x2 (fun r4 => (vp_in r4 60 ∧ (∀ y6 : Int32, y6 = (g1 4 r4.toNatClampNeg) → (vp_in r4 60 ∧ ∀ g7 : sx_F, g7 = sx_u g1 4 r4.toNatClampNeg 0 → (vp_in r4 60 ∧ ((y6 = 0 → B69 g7 y6 r4 (g7 5 r4.toNatClampNeg) 0) ∧ (¬ y6 = 0 → B69 g7 y6 r4 (g7 5 r4.toNatClampNeg) 1)))))))))))) → B21 f s1) →
  (∀ (f : sx_F) (v4 : Int32) (s1 : Int32) (s2 : Int32) (s3 : Int32), (vp_in s1 60 ∧ ∀ g9 : sx_F, g9 = sx_u f 5 s1.toNatClampNeg (s2 + s3) → Q v4 g9) → B69 f v4 s1 s2 s3) →
  (P_X7_isInstrument f x1 (fun r10 => ((r10 = 0 → B20 f) ∧ (¬ r10 = 0 → (P_X7_isBar f x2 (fun r13 => ((r13 = 0 → B20 f) ∧ (¬ r13 = 0 → B21 f 1))))))))
def P_X7_setPaper (f : sx_F) (x1 : Int32) (x2 : Int32) (Q : Int32 → sx_F → Prop) : Prop :=
  ∀ (B27 : sx_F → Prop),
  ∀ (B28 : sx_F → Int32 → Prop),
  (∀ (f : sx_F), B28 f 0 → B27 f) →
  (∀ (f : sx_F) (s1 : Int32), (P_X7_goes f s1 1 1 (fun r2 g1 => ((r2 = 0 → Q 0 g1) ∧ (¬ r2 = 0 → (∀ y4 : Int32, y4 = (g1 0 6) → (∀ g5 : sx_F, g5 = sx_u g1 0 6 x1 → (∀ g6 : sx_F, g6 = sx_u g5 0 7 x2 → Q y4 g6))))))) → B28 f s1) →
  (P_X7_in f x1 80 500 (fun r7 => ((r7 = 0 → B27 f) ∧ (¬ r7 = 0 → (P_X7_in f x2 1 6 (fun r10 => ((r10 = 0 → B27 f) ∧ (¬ r10 = 0 → B28 f 1))))))))
def P_X7_copy (f : sx_F) (x1 : Int32) (Q : Int32 → sx_F → Prop) : Prop :=
  ∀ (B19 : sx_F → Int32 → Int32 → Prop),
  (∀ (f : sx_F) (s1 : Int32) (s2 : Int32), (P_X7_goes f s1 s2 1 (fun r2 g1 => ((r2 = 0 → Q 0 g1) ∧ (¬ r2 = 0 → (vp_in (g1 0 11) 16 ∧ ∀ g4 : sx_F, g4 = sx_u g1 6 (g1 0 11).toNatClampNeg x1 → (vp_in (g4 0 11) 16 ∧ ∀ g5 : sx_F, g5 = sx_u g4 7 (g4 0 11).toNatClampNeg (-1) → (∀ g6 : sx_F, g6 = sx_u g5 0 11 ((g5 0 11) + 1) → Q ((g6 0 11) - 1) g6))))))) → B19 f s1 s2) →
  (P_X7_isInstrument f x1 (fun r7 => ((16 ≤ (f 0 11) → B19 f r7 0) ∧ (¬ 16 ≤ (f 0 11) → B19 f r7 1))))
def P_X7_away (f : sx_F)  (Q : Int32 → Prop) : Prop :=
  ∀ (B4 : Int32 → Int32 → Prop),
  ∀ (B28 : Int32 → Int32 → Int32 → Prop),
  (∀ (v1 : Int32) (v2 : Int32), (((f 0 11) ≤ v2 → Q v1) ∧ (¬ (f 0 11) ≤ v2 → (vp_in v2 16 ∧ (((f 7 v2.toNatClampNeg) = (-1) → B28 v2 v1 0) ∧ (¬ (f 7 v2.toNatClampNeg) = (-1) → B28 v2 v1 1))))) → B4 v1 v2) →
  (∀ (v2 : Int32) (s0 : Int32) (s1 : Int32), (∀ y3 : Int32, y3 = (s0 + s1) → (∀ y4 : Int32, y4 = v2 + 1 → B4 y3 y4)) → B28 v2 s0 s1) →
  B4 0 0
def P_X7_renews (f : sx_F) (x1 : Int32) (Q : sx_F → Prop) : Prop :=
  ∀ (B2 : sx_F → Int32 → Prop),
  ∀ (B45 : sx_F → Int32 → Int32 → Int32 → Prop),
  (∀ (f : sx_F) (v2 : Int32), ((12 ≤ v2 → Q f) ∧ (¬ 12 ≤ v2 → (((f 0 5) ≤ v2 → B45 f v2 ((12 * x1) + v2) (-1)) ∧ (¬ (f 0 5) ≤ v2 → (vp_in x1 16 ∧ (P_X7_cell f (f 6 x1.toNatClampNeg) v2 (fun r3 => (vp_in r3 60 ∧ B45 f v2 ((12 * x1) + v2) (f 5 r3.toNatClampNeg))))))))) → B2 f v2) →
  (∀ (f : sx_F) (v2 : Int32) (s1 : Int32) (s2 : Int32), (vp_in s1 192 ∧ ∀ g5 : sx_F, g5 = sx_u f 8 s1.toNatClampNeg s2 → (∀ y6 : Int32, y6 = v2 + 1 → B2 g5 y6)) → B45 f v2 s1 s2) →
  B2 f 0
def P_X7_lend (f : sx_F) (x1 : Int32) (x2 : Int32) (Q : Int32 → sx_F → Prop) : Prop :=
  ∀ (B21 : sx_F → Prop),
  ∀ (B22 : sx_F → Int32 → Prop),
  ∀ (B41 : sx_F → Int32 → Prop),
  ∀ (B42 : sx_F → Int32 → Int32 → Prop),
  ∀ (B47 : sx_F → Int32 → Int32 → Int32 → Prop),
  ∀ (B92 : sx_F → Int32 → Int32 → Prop),
  ∀ (B96 : sx_F → Int32 → Int32 → Prop),
  ∀ (B97 : sx_F → Int32 → Int32 → Int32 → Prop),
  ∀ (B105 : sx_F → Int32 → Int32 → Prop),
  (∀ (f : sx_F), B22 f 0 → B21 f) →
  (∀ (f : sx_F) (s0 : Int32), ((s0 = 0 → B41 f s0) ∧ (¬ s0 = 0 → (vp_in x1 16 ∧ (((f 7 x1.toNatClampNeg) = (-1) → B42 f s0 1) ∧ (¬ (f 7 x1.toNatClampNeg) = (-1) → B41 f s0))))) → B22 f s0) →
  (∀ (f : sx_F) (v3 : Int32), B42 f v3 0 → B41 f v3) →
  (∀ (f : sx_F) (v3 : Int32) (s0 : Int32), B47 f v3 s0 0 → B42 f v3 s0) →
  (∀ (f : sx_F) (v3 : Int32) (v4 : Int32) (v5 : Int32), (((f 0 11) ≤ v5 → B105 f v3 v4) ∧ (¬ (f 0 11) ≤ v5 → ((v3 = 0 → B105 f v3 v4) ∧ (¬ v3 = 0 → ((v4 = 0 → B96 f v3 v5) ∧ (¬ v4 = 0 → (vp_in v5 16 ∧ (((f 7 v5.toNatClampNeg) = x2 → (vp_in v5 16 ∧ (vp_in x1 16 ∧ (((f 6 v5.toNatClampNeg) = (f 6 x1.toNatClampNeg) → B96 f v3 v5) ∧ (¬ (f 6 v5.toNatClampNeg) = (f 6 x1.toNatClampNeg) → B92 f v3 v5))))) ∧ (¬ (f 7 v5.toNatClampNeg) = x2 → B92 f v3 v5))))))))) → B47 f v3 v4 v5) →
  (∀ (f : sx_F) (v3 : Int32) (v5 : Int32), B97 f v3 v5 1 → B92 f v3 v5) →
  (∀ (f : sx_F) (v3 : Int32) (v5 : Int32), B97 f v3 v5 0 → B96 f v3 v5) →
  (∀ (f : sx_F) (v3 : Int32) (v5 : Int32) (s0 : Int32), (∀ y8 : Int32, y8 = v5 + 1 → B47 f v3 s0 y8) → B97 f v3 v5 s0) →
  (∀ (f : sx_F) (v3 : Int32) (v4 : Int32), (P_X7_goes f v3 v4 1 (fun r10 g9 => ((r10 = 0 → Q 0 g9) ∧ (¬ r10 = 0 → (vp_in x1 16 ∧ ∀ g12 : sx_F, g12 = sx_u g9 7 x1.toNatClampNeg x2 → (P_X7_renews g12 x1 (fun g13 => (P_X7_away g13 (fun r14 => Q r14 g13))))))))) → B105 f v3 v4) →
  (P_X7_isCopy f x1 (fun r16 => ((r16 = 0 → B21 f) ∧ (¬ r16 = 0 → (P_X7_in f x2 0 5 (fun r19 => ((r19 = 0 → B21 f) ∧ (¬ r19 = 0 → B22 f 1))))))))
def P_X7_owes (f : sx_F) (x1 : Int32) (x2 : Int32) (Q : Int32 → Prop) : Prop :=
  (vp_in x1 16 ∧ (((f 7 x1.toNatClampNeg) = (-1) → Q 0) ∧ (¬ (f 7 x1.toNatClampNeg) = (-1) → (vp_in ((12 * x1) + x2) 192 ∧ (vp_in x1 16 ∧ (P_X7_cell f (f 6 x1.toNatClampNeg) x2 (fun r2 => (vp_in r2 60 ∧ (((f 8 ((12 * x1) + x2).toNatClampNeg) = (f 5 r2.toNatClampNeg) → Q 0) ∧ (¬ (f 8 ((12 * x1) + x2).toNatClampNeg) = (f 5 r2.toNatClampNeg) → Q 1))))))))))
def P_X7_owedBy (f : sx_F) (x1 : Int32) (Q : Int32 → Prop) : Prop :=
  ∀ (B4 : Int32 → Int32 → Prop),
  ∀ (B27 : Int32 → Int32 → Int32 → Prop),
  (∀ (v2 : Int32) (v3 : Int32), (((f 0 5) ≤ v3 → Q v2) ∧ (¬ (f 0 5) ≤ v3 → (P_X7_owes f x1 v3 (fun r2 => ((r2 = 0 → B27 v3 v2 0) ∧ (¬ r2 = 0 → B27 v3 v2 1)))))) → B4 v2 v3) →
  (∀ (v3 : Int32) (s0 : Int32) (s1 : Int32), (∀ y5 : Int32, y5 = (s0 + s1) → (∀ y6 : Int32, y6 = v3 + 1 → B4 y5 y6)) → B27 v3 s0 s1) →
  B4 0 0
def P_X7_isAway (f : sx_F) (x1 : Int32) (Q : Int32 → Prop) : Prop :=
  (P_X7_isCopy f x1 (fun r1 => ((r1 = 0 → Q 0) ∧ (¬ r1 = 0 → (vp_in x1 16 ∧ (((f 7 x1.toNatClampNeg) = (-1) → Q 0) ∧ (¬ (f 7 x1.toNatClampNeg) = (-1) → Q 1)))))))
def P_X7_giveBack (f : sx_F) (x1 : Int32) (Q : Int32 → sx_F → Prop) : Prop :=
  (P_X7_isCopy f x1 (fun r1 => (P_X7_isAway f x1 (fun r3 => (P_X7_goes f r1 r3 1 (fun r6 g5 => ((r6 = 0 → Q 0 g5) ∧ (¬ r6 = 0 → (P_X7_owedBy g5 x1 (fun r8 => (vp_in x1 16 ∧ ∀ g10 : sx_F, g10 = sx_u g5 7 x1.toNatClampNeg (-1) → Q r8 g10)))))))))))
def P_X7_paste (f : sx_F) (x1 : Int32) (Q : Int32 → sx_F → Prop) : Prop :=
  (P_X7_isCopy f x1 (fun r1 => (P_X7_isAway f x1 (fun r3 => (P_X7_goes f r1 r3 1 (fun r6 g5 => ((r6 = 0 → Q 0 g5) ∧ (¬ r6 = 0 → (P_X7_owedBy g5 x1 (fun r8 => (P_X7_renews g5 x1 (fun g10 => Q r8 g10))))))))))))
def P_X7_mark (f : sx_F) (x1 : Int32) (x2 : Int32) (x3 : Int32) (Q : Int32 → sx_F → Prop) : Prop :=
  ∀ (B20 : sx_F → Prop),
  ∀ (B21 : sx_F → Int32 → Prop),
  ∀ (B57 : sx_F → Int32 → Prop),
  ∀ (B58 : sx_F → Int32 → Int32 → Prop),
  (∀ (f : sx_F), B21 f 0 → B20 f) →
  (∀ (f : sx_F) (s0 : Int32), ((s0 = 0 → B57 f s0) ∧ (¬ s0 = 0 → (vp_in x1 16 ∧ (((f 7 x1.toNatClampNeg) = (-1) → B57 f s0) ∧ (¬ (f 7 x1.toNatClampNeg) = (-1) → (vp_in ((12 * x1) + x2) 192 ∧ (((f 8 ((12 * x1) + x2).toNatClampNeg) = (-1) → B57 f s0) ∧ (¬ (f 8 ((12 * x1) + x2).toNatClampNeg) = (-1) → B58 f s0 1)))))))) → B21 f s0) →
  (∀ (f : sx_F) (v4 : Int32), B58 f v4 0 → B57 f v4) →
  (∀ (f : sx_F) (v4 : Int32) (s0 : Int32), (P_X7_in f x3 0 9 (fun r4 => (P_X7_goes f v4 r4 s0 (fun r7 g6 => ((r7 = 0 → Q 0 g6) ∧ (¬ r7 = 0 → (vp_in x1 16 ∧ (vp_in x1 16 ∧ (P_X7_cell g6 (g6 6 x1.toNatClampNeg) x2 (fun r9 => (∀ y11 : Int32, y11 = ((60 * (g6 7 x1.toNatClampNeg)) + r9) → (vp_in y11 360 ∧ (∀ y12 : Int32, y12 = (g6 9 y11.toNatClampNeg) → (vp_in y11 360 ∧ ∀ g13 : sx_F, g13 = sx_u g6 9 y11.toNatClampNeg x3 → (vp_in ((12 * x1) + x2) 192 ∧ (vp_in y11 360 ∧ ∀ g14 : sx_F, g14 = sx_u g13 10 y11.toNatClampNeg (g13 8 ((12 * x1) + x2).toNatClampNeg) → Q y12 g14)))))))))))))))) → B58 f v4 s0) →
  (P_X7_isCopy f x1 (fun r15 => ((r15 = 0 → B20 f) ∧ (¬ r15 = 0 → (P_X7_isBar f x2 (fun r18 => ((r18 = 0 → B20 f) ∧ (¬ r18 = 0 → B21 f 1))))))))
def P_X7_bowing (f : sx_F) (x1 : Int32) (x2 : Int32) (x3 : Int32) (Q : Int32 → Prop) : Prop :=
  (∀ y1 : Int32, y1 = ((8 * ((60 * x1) + x2)) + x3) → (vp_in y1 2880 ∧ (vp_in x2 60 ∧ (((f 12 y1.toNatClampNeg) = (f 5 x2.toNatClampNeg) → (vp_in y1 2880 ∧ Q (f 11 y1.toNatClampNeg))) ∧ (¬ (f 12 y1.toNatClampNeg) = (f 5 x2.toNatClampNeg) → Q 0)))))
def P_X7_bow (f : sx_F) (x1 : Int32) (x2 : Int32) (x3 : Int32) (x4 : Int32) (Q : Int32 → sx_F → Prop) : Prop :=
  ∀ (B31 : sx_F → Prop),
  ∀ (B32 : sx_F → Int32 → Prop),
  ∀ (B72 : sx_F → Int32 → Int32 → Prop),
  ∀ (B73 : sx_F → Int32 → Int32 → Int32 → Prop),
  (∀ (f : sx_F), B32 f 0 → B31 f) →
  (∀ (f : sx_F) (s0 : Int32), (P_X7_in f x4 0 2 (fun r1 => ((s0 = 0 → B72 f s0 r1) ∧ (¬ s0 = 0 → (vp_in x1 16 ∧ (((f 7 x1.toNatClampNeg) = (-1) → B72 f s0 r1) ∧ (¬ (f 7 x1.toNatClampNeg) = (-1) → (P_X7_owes f x1 x2 (fun r5 => ((r5 = 0 → B73 f s0 r1 1) ∧ (¬ r5 = 0 → B72 f s0 r1))))))))))) → B32 f s0) →
  (∀ (f : sx_F) (s1 : Int32) (s2 : Int32), B73 f s1 s2 0 → B72 f s1 s2) →
  (∀ (f : sx_F) (s1 : Int32) (s2 : Int32) (s3 : Int32), (P_X7_goes f s1 s2 s3 (fun r9 g8 => ((r9 = 0 → Q 0 g8) ∧ (¬ r9 = 0 → (vp_in x1 16 ∧ (P_X7_cell g8 (g8 6 x1.toNatClampNeg) x2 (fun r11 => (vp_in x1 16 ∧ (∀ y13 : Int32, y13 = ((8 * ((60 * (g8 7 x1.toNatClampNeg)) + r11)) + x3) → (vp_in x1 16 ∧ (P_X7_bowing g8 (g8 7 x1.toNatClampNeg) r11 x3 (fun r14 => (vp_in y13 2880 ∧ ∀ g16 : sx_F, g16 = sx_u g8 11 y13.toNatClampNeg x4 → (vp_in r11 60 ∧ (vp_in y13 2880 ∧ ∀ g17 : sx_F, g17 = sx_u g16 12 y13.toNatClampNeg (g16 5 r11.toNatClampNeg) → Q r14 g17))))))))))))))) → B73 f s1 s2 s3) →
  (P_X7_isCopy f x1 (fun r18 => ((r18 = 0 → B31 f) ∧ (¬ r18 = 0 → (vp_in x1 16 ∧ (P_X7_isNote f (f 6 x1.toNatClampNeg) x2 x3 (fun r21 => ((r21 = 0 → B31 f) ∧ (¬ r21 = 0 → B32 f 1)))))))))
def P_X7_play (f : sx_F)  (Q : Int32 → sx_F → Prop) : Prop :=
  ∀ (B12 : sx_F → Int32 → Prop),
  ∀ (B15 : sx_F → Int32 → Int32 → Prop),
  ∀ (B39 : sx_F → Int32 → Prop),
  ∀ (B40 : sx_F → Int32 → Int32 → Prop),
  (∀ (f : sx_F) (s0 : Int32), B15 f s0 0 → B12 f s0) →
  (∀ (f : sx_F) (v1 : Int32) (v2 : Int32), (((f 0 11) ≤ v2 → (P_X7_goes f v1 1 1 (fun r3 g2 => ((r3 = 0 → Q 0 g2) ∧ (¬ r3 = 0 → (∀ g5 : sx_F, g5 = sx_u g2 0 12 ((g2 0 12) + 1) → (P_X7_away g5 (fun r6 => Q r6 g5)))))))) ∧ (¬ (f 0 11) ≤ v2 → ((v1 = 0 → B39 f v2) ∧ (¬ v1 = 0 → (P_X7_owedBy f v2 (fun r9 => ((r9 = 0 → B40 f v2 1) ∧ (¬ r9 = 0 → B39 f v2)))))))) → B15 f v1 v2) →
  (∀ (f : sx_F) (v2 : Int32), B40 f v2 0 → B39 f v2) →
  (∀ (f : sx_F) (v2 : Int32) (s0 : Int32), (∀ y12 : Int32, y12 = v2 + 1 → B15 f s0 y12) → B40 f v2 s0) →
  (P_X7_away f (fun r13 => ((r13 ≤ 0 → B12 f 0) ∧ (¬ r13 ≤ 0 → B12 f 1))))
def P_X7_bars (f : sx_F)  (Q : Int32 → sx_F → Prop) : Prop :=
  (∀ g1 : sx_F, g1 = sx_u f 0 33 0 → Q (g1 0 5) g1)
def P_X7_notes (f : sx_F) (x1 : Int32) (x2 : Int32) (Q : Int32 → sx_F → Prop) : Prop :=
  ∀ (B20 : sx_F → Prop),
  ∀ (B21 : sx_F → Int32 → Prop),
  (∀ (f : sx_F), B21 f 0 → B20 f) →
  (∀ (f : sx_F) (s1 : Int32), (P_X7_goes f s1 1 1 (fun r2 g1 => ((r2 = 0 → Q 0 g1) ∧ (¬ r2 = 0 → (P_X7_cell g1 x1 x2 (fun r4 => (vp_in r4 60 ∧ Q (g1 4 r4.toNatClampNeg) g1))))))) → B21 f s1) →
  (P_X7_isInstrument f x1 (fun r6 => ((r6 = 0 → B20 f) ∧ (¬ r6 = 0 → (P_X7_isBar f x2 (fun r9 => ((r9 = 0 → B20 f) ∧ (¬ r9 = 0 → B21 f 1))))))))
def P_X7_noteAt (f : sx_F) (x1 : Int32) (x2 : Int32) (x3 : Int32) (Q : Int32 → sx_F → Prop) : Prop :=
  (P_X7_isNote f x1 x2 x3 (fun r1 => (P_X7_goes f r1 1 1 (fun r4 g3 => ((r4 = 0 → Q 0 g3) ∧ (¬ r4 = 0 → (P_X7_cell g3 x1 x2 (fun r6 => (∀ y8 : Int32, y8 = ((8 * r6) + x3) → (vp_in y8 480 ∧ (vp_in y8 480 ∧ Q ((100 * (g3 2 y8.toNatClampNeg)) + (g3 3 y8.toNatClampNeg)) g3)))))))))))
def P_X7_version (f : sx_F) (x1 : Int32) (x2 : Int32) (Q : Int32 → sx_F → Prop) : Prop :=
  ∀ (B20 : sx_F → Prop),
  ∀ (B21 : sx_F → Int32 → Prop),
  (∀ (f : sx_F), B21 f 0 → B20 f) →
  (∀ (f : sx_F) (s1 : Int32), (P_X7_goes f s1 1 1 (fun r2 g1 => ((r2 = 0 → Q 0 g1) ∧ (¬ r2 = 0 → (P_X7_cell g1 x1 x2 (fun r4 => (vp_in r4 60 ∧ Q (g1 5 r4.toNatClampNeg) g1))))))) → B21 f s1) →
  (P_X7_isInstrument f x1 (fun r6 => ((r6 = 0 → B20 f) ∧ (¬ r6 = 0 → (P_X7_isBar f x2 (fun r9 => ((r9 = 0 → B20 f) ∧ (¬ r9 = 0 → B21 f 1))))))))
def P_X7_time (f : sx_F) (x1 : Int32) (Q : Int32 → sx_F → Prop) : Prop :=
  ∀ (B21 : sx_F → Int32 → Int32 → Int32 → Prop),
  (∀ (f : sx_F) (v2 : Int32) (v3 : Int32) (v4 : Int32), ((v3 = 0 → Q v2 f) ∧ (¬ v3 = 0 → ((x1 ≤ v4 → Q v2 f) ∧ (¬ x1 ≤ v4 → (vp_in v4 12 ∧ (∀ y3 : Int32, y3 = (v2 + (f 1 v4.toNatClampNeg)) → (∀ y4 : Int32, y4 = v4 + 1 → B21 f y3 v3 y4))))))) → B21 f v2 v3 v4) →
  (P_X7_in f x1 0 (f 0 5) (fun r5 => (P_X7_goes f r5 1 1 (fun r8 g7 => B21 g7 0 r8 0))))
def P_X7_timeByBars (f : sx_F) (x1 : Int32) (Q : Int32 → sx_F → Prop) : Prop :=
  (P_X7_time f x1 (fun r2 g1 => Q r2 g1))
def P_X7_isSilent (f : sx_F) (x1 : Int32) (x2 : Int32) (Q : Int32 → Prop) : Prop :=
  ∀ (B12 : Int32 → Int32 → Int32 → Prop),
  ∀ (B48 : Int32 → Int32 → Prop),
  ∀ (B49 : Int32 → Int32 → Int32 → Prop),
  (∀ (v3 : Int32) (v4 : Int32) (v5 : Int32), (vp_in v4 60 ∧ (((f 4 v4.toNatClampNeg) ≤ v5 → ((v3 = 0 ∨ v3 = 1) ∧ Q v3)) ∧ (¬ (f 4 v4.toNatClampNeg) ≤ v5 → ((v3 = 0 → B48 v4 v5) ∧ (¬ v3 = 0 → (vp_in ((8 * v4) + v5) 480 ∧ (((f 3 ((8 * v4) + v5).toNatClampNeg) = 0 → B49 v4 v5 1) ∧ (¬ (f 3 ((8 * v4) + v5).toNatClampNeg) = 0 → B48 v4 v5)))))))) → B12 v3 v4 v5) →
  (∀ (v4 : Int32) (v5 : Int32), B49 v4 v5 0 → B48 v4 v5) →
  (∀ (v4 : Int32) (v5 : Int32) (s0 : Int32), (∀ y4 : Int32, y4 = v5 + 1 → B12 s0 v4 y4) → B49 v4 v5 s0) →
  (P_X7_cell f x1 x2 (fun r5 => B12 1 r5 0))
def P_X7_cueFor (f : sx_F) (x1 : Int32) (x2 : Int32) (Q : Int32 → Prop) : Prop :=
  ∀ (B5 : Int32 → Int32 → Prop),
  ∀ (B31 : Int32 → Int32 → Prop),
  ∀ (B32 : Int32 → Int32 → Int32 → Prop),
  ∀ (B68 : Int32 → Prop),
  ∀ (B73 : Int32 → Int32 → Prop),
  ∀ (B74 : Int32 → Int32 → Prop),
  (∀ (v3 : Int32) (v4 : Int32), ((5 ≤ v4 → Q v3) ∧ (¬ 5 ≤ v4 → ((v4 = x1 → B31 v3 v4) ∧ (¬ v4 = x1 → (P_X7_isSilent f v4 x2 (fun r3 => ((r3 = 0 → B32 v3 v4 1) ∧ (¬ r3 = 0 → B31 v3 v4)))))))) → B5 v3 v4) →
  (∀ (v3 : Int32) (v4 : Int32), B32 v3 v4 0 → B31 v3 v4) →
  (∀ (v3 : Int32) (v4 : Int32) (s0 : Int32), ((s0 = 0 → B73 v3 v4) ∧ (¬ s0 = 0 → ((v3 = (-1) → B68 v4) ∧ (¬ v3 = (-1) → (P_X7_cell f v4 x2 (fun r8 => (vp_in r8 60 ∧ (P_X7_cell f v3 x2 (fun r10 => (vp_in r10 60 ∧ (((f 4 r8.toNatClampNeg) ≤ (f 4 r10.toNatClampNeg) → B73 v3 v4) ∧ (¬ (f 4 r8.toNatClampNeg) ≤ (f 4 r10.toNatClampNeg) → B68 v4)))))))))))) → B32 v3 v4 s0) →
  (∀ (v4 : Int32), B74 v4 v4 → B68 v4) →
  (∀ (v3 : Int32) (v4 : Int32), B74 v4 v3 → B73 v3 v4) →
  (∀ (v4 : Int32) (s0 : Int32), (∀ y13 : Int32, y13 = v4 + 1 → B5 s0 y13) → B74 v4 s0) →
  B5 (-1) 0
def P_X7_adds (f : sx_F) (x1 : Int32) (x2 : Int32) (x3 : Int32) (Q : sx_F → Prop) : Prop :=
  (vp_in (f 0 20) 12 ∧ ∀ g1 : sx_F, g1 = sx_u f 13 (f 0 20).toNatClampNeg x1 → (vp_in (g1 0 20) 12 ∧ ∀ g2 : sx_F, g2 = sx_u g1 14 (g1 0 20).toNatClampNeg x2 → (vp_in (g2 0 20) 12 ∧ ∀ g3 : sx_F, g3 = sx_u g2 15 (g2 0 20).toNatClampNeg x3 → (∀ g4 : sx_F, g4 = sx_u g3 0 20 ((g3 0 20) + 1) → Q g4))))
def P_X7_laysItems (f : sx_F) (x1 : Int32) (Q : sx_F → Prop) : Prop :=
  ∀ (B7 : sx_F → Int32 → Prop),
  ∀ (B17 : sx_F → Int32 → Int32 → Prop),
  ∀ (B45 : sx_F → Int32 → Int32 → Prop),
  ∀ (B89 : sx_F → Int32 → Int32 → Prop),
  ∀ (B90 : sx_F → Int32 → Int32 → Int32 → Prop),
  ∀ (B109 : sx_F → Int32 → Int32 → Int32 → Int32 → Prop),
  ∀ (B131 : sx_F → Int32 → Prop),
  (∀ (f : sx_F) (v2 : Int32), (((f 0 5) ≤ v2 → Q f) ∧ (¬ (f 0 5) ≤ v2 → B17 f v2 v2)) → B7 f v2) →
  (∀ (f : sx_F) (v2 : Int32) (v3 : Int32), ((x1 = 5 → B45 f v2 v3) ∧ (¬ x1 = 5 → (((f 0 5) ≤ v3 → B45 f v2 v3) ∧ (¬ (f 0 5) ≤ v3 → (P_X7_isSilent f x1 v3 (fun r4 => ((r4 = 0 → B45 f v2 v3) ∧ (¬ r4 = 0 → (∀ y7 : Int32, y7 = v3 + 1 → B17 f v2 y7))))))))) → B17 f v2 v3) →
  (∀ (f : sx_F) (v2 : Int32) (v3 : Int32), ((v3 = v2 → (P_X7_adds f v2 v2 x1 (fun g13 => (∀ y14 : Int32, y14 = v3 + 1 → B131 g13 y14)))) ∧ (¬ v3 = v2 → (((v3 - v2) < 3 → B89 f v2 v3) ∧ (¬ (v3 - v2) < 3 → (((f 0 5) ≤ v3 → B89 f v2 v3) ∧ (¬ (f 0 5) ≤ v3 → (P_X7_cueFor f x1 (v3 - 1) (fun r11 => B90 f v2 v3 r11)))))))) → B45 f v2 v3) →
  (∀ (f : sx_F) (v2 : Int32) (v3 : Int32), B90 f v2 v3 (-1) → B89 f v2 v3) →
  (∀ (f : sx_F) (v2 : Int32) (v3 : Int32) (s0 : Int32), ((s0 = (-1) → B109 f v3 s0 v2 (v3 - 1)) ∧ (¬ s0 = (-1) → B109 f v3 s0 v2 (v3 - 2))) → B90 f v2 v3 s0) →
  (∀ (f : sx_F) (v3 : Int32) (v4 : Int32) (s1 : Int32) (s2 : Int32), (P_X7_adds f s1 s2 (-1) (fun g16 => ((v4 = (-1) → B131 g16 v3) ∧ (¬ v4 = (-1) → (P_X7_adds g16 (v3 - 1) (v3 - 1) v4 (fun g18 => B131 g18 v3)))))) → B109 f v3 v4 s1 s2) →
  (∀ (f : sx_F) (v3 : Int32), B7 f v3 → B131 f v3) →
  (∀ g19 : sx_F, g19 = sx_u f 0 20 0 → B7 g19 0)
def P_X7_begins (f : sx_F) (x1 : Int32) (x2 : Int32) (x3 : Int32) (Q : Int32 → Prop) : Prop :=
  ∀ (B13 : Int32 → Int32 → Int32 → Prop),
  (∀ (v4 : Int32) (v5 : Int32) (v6 : Int32), (vp_in v4 60 ∧ (((f 4 v4.toNatClampNeg) ≤ v6 → ((v5 = x3 → (vp_in x2 12 ∧ (((f 1 x2.toNatClampNeg) ≤ v5 → Q 0) ∧ (¬ (f 1 x2.toNatClampNeg) ≤ v5 → Q 1)))) ∧ (¬ v5 = x3 → Q 0))) ∧ (¬ (f 4 v4.toNatClampNeg) ≤ v6 → ((v5 = x3 → (vp_in ((8 * v4) + v6) 480 ∧ (((f 3 ((8 * v4) + v6).toNatClampNeg) ≤ 0 → Q 1) ∧ (¬ (f 3 ((8 * v4) + v6).toNatClampNeg) ≤ 0 → Q 2)))) ∧ (¬ v5 = x3 → (vp_in ((8 * v4) + v6) 480 ∧ (∀ y5 : Int32, y5 = (v5 + (f 2 ((8 * v4) + v6).toNatClampNeg)) → (∀ y6 : Int32, y6 = v6 + 1 → B13 v4 y5 y6)))))))) → B13 v4 v5 v6) →
  (P_X7_cell f x1 x2 (fun r8 => B13 r8 0 0))
def P_X7_halvings (f : sx_F) (x0 : Int32) (Q : Int32 → Prop) : Prop :=
  ∀ (B4 : Int32 → Int32 → Prop),
  (∀ (v1 : Int32) (v2 : Int32), ((v2 ≤ 1 → Q v1) ∧ (¬ v2 ≤ 1 → (∀ y2 : Int32, y2 = (v2 / 2) → (∀ y3 : Int32, y3 = v1 + 1 → B4 y3 y2)))) → B4 v1 v2) →
  B4 0 x0
def P_X7_laysSprings (f : sx_F)  (Q : sx_F → Prop) : Prop :=
  ∀ (B9 : sx_F → Int32 → Prop),
  ∀ (B51 : sx_F → Int32 → Int32 → Int32 → Int32 → Prop),
  ∀ (B73 : sx_F → Int32 → Int32 → Int32 → Int32 → Int32 → Prop),
  ∀ (B78 : sx_F → Int32 → Int32 → Int32 → Int32 → Int32 → Int32 → Prop),
  ∀ (B109 : sx_F → Int32 → Int32 → Int32 → Int32 → Int32 → Int32 → Int32 → Int32 → Int32 → Prop),
  ∀ (B139 : sx_F → Int32 → Int32 → Int32 → Int32 → Int32 → Int32 → Int32 → Int32 → Int32 → Int32 → Int32 → Prop),
  ∀ (B155 : sx_F → Int32 → Int32 → Int32 → Int32 → Int32 → Int32 → Int32 → Int32 → Int32 → Int32 → Prop),
  ∀ (B174 : sx_F → Int32 → Int32 → Int32 → Int32 → Int32 → Int32 → Int32 → Prop),
  ∀ (B195 : sx_F → Int32 → Int32 → Int32 → Int32 → Int32 → Int32 → Prop),
  ∀ (B201 : sx_F → Int32 → Int32 → Int32 → Prop),
  ∀ (B209 : sx_F → Int32 → Int32 → Int32 → Int32 → Prop),
  ∀ (B241 : sx_F → Int32 → Int32 → Int32 → Int32 → Int32 → Prop),
  ∀ (B293 : sx_F → Int32 → Int32 → Int32 → Int32 → Int32 → Int32 → Prop),
  ∀ (B336 : sx_F → Int32 → Int32 → Prop),
  ∀ (B369 : sx_F → Int32 → Int32 → Int32 → Prop),
  (∀ (f : sx_F) (v1 : Int32), (((f 0 20) ≤ v1 → Q f) ∧ (¬ (f 0 20) ≤ v1 → (vp_in v1 13 ∧ (∀ y2 : Int32, y2 = (f 16 v1.toNatClampNeg) → (vp_in v1 12 ∧ (∀ y3 : Int32, y3 = (f 13 v1.toNatClampNeg) → (vp_in v1 12 ∧ (((f 15 v1.toNatClampNeg) = 5 → B51 f v1 y2 y3 0) ∧ (¬ (f 15 v1.toNatClampNeg) = 5 → (vp_in v1 12 ∧ B51 f v1 y2 y3 (f 15 v1.toNatClampNeg))))))))))) → B9 f v1) →
  (∀ (f : sx_F) (v1 : Int32) (v2 : Int32) (v3 : Int32) (s0 : Int32), (vp_in v1 12 ∧ (((f 15 v1.toNatClampNeg) = 5 → B73 f v1 v2 v3 s0 4) ∧ (¬ (f 15 v1.toNatClampNeg) = 5 → (vp_in v1 12 ∧ B73 f v1 v2 v3 s0 (f 15 v1.toNatClampNeg))))) → B51 f v1 v2 v3 s0) →
  (∀ (f : sx_F) (v1 : Int32) (v2 : Int32) (v3 : Int32) (v4 : Int32) (s0 : Int32), B78 f v1 v2 v3 v4 s0 0 → B73 f v1 v2 v3 v4 s0) →
  (∀ (f : sx_F) (v1 : Int32) (v2 : Int32) (v3 : Int32) (v4 : Int32) (v5 : Int32) (v6 : Int32), (vp_in v3 12 ∧ (((f 1 v3.toNatClampNeg) ≤ v6 → B201 f v1 v2 v3) ∧ (¬ (f 1 v3.toNatClampNeg) ≤ v6 → (vp_in v1 12 ∧ (((f 15 v1.toNatClampNeg) = (-1) → B201 f v1 v2 v3) ∧ (¬ (f 15 v1.toNatClampNeg) = (-1) → B109 f v1 v2 v3 v4 v5 v6 0 0 v4)))))) → B78 f v1 v2 v3 v4 v5 v6) →
  (∀ (f : sx_F) (v1 : Int32) (v2 : Int32) (v3 : Int32) (v4 : Int32) (v5 : Int32) (v6 : Int32) (v7 : Int32) (v8 : Int32) (v9 : Int32), ((v5 < v9 → ((v6 = 0 → B174 f v1 v2 v3 v4 v5 v6 v8) ∧ (¬ v6 = 0 → ((v7 ≤ 0 → B195 f v1 v2 v3 v4 v5 v6) ∧ (¬ v7 ≤ 0 → B174 f v1 v2 v3 v4 v5 v6 v8))))) ∧ (¬ v5 < v9 → (P_X7_begins f v9 v3 v6 (fun r11 => ((r11 ≤ 0 → B139 f v1 v2 v3 v4 v5 v6 v8 v9 r11 v7 0) ∧ (¬ r11 ≤ 0 → B139 f v1 v2 v3 v4 v5 v6 v8 v9 r11 v7 1)))))) → B109 f v1 v2 v3 v4 v5 v6 v7 v8 v9) →
  (∀ (f : sx_F) (v1 : Int32) (v2 : Int32) (v3 : Int32) (v4 : Int32) (v5 : Int32) (v6 : Int32) (v8 : Int32) (v9 : Int32) (v10 : Int32) (s0 : Int32) (s1 : Int32), (∀ y14 : Int32, y14 = (s0 + s1) → ((v10 = 2 → B155 f v1 v2 v3 v4 v5 v6 y14 v9 v8 1) ∧ (¬ v10 = 2 → B155 f v1 v2 v3 v4 v5 v6 y14 v9 v8 0))) → B139 f v1 v2 v3 v4 v5 v6 v8 v9 v10 s0 s1) →
  (∀ (f : sx_F) (v1 : Int32) (v2 : Int32) (v3 : Int32) (v4 : Int32) (v5 : Int32) (v6 : Int32) (v7 : Int32) (v9 : Int32) (s0 : Int32) (s1 : Int32), (∀ y16 : Int32, y16 = (s0 + s1) → (∀ y17 : Int32, y17 = v9 + 1 → B109 f v1 v2 v3 v4 v5 v6 v7 y16 y17)) → B155 f v1 v2 v3 v4 v5 v6 v7 v9 s0 s1) →
  (∀ (f : sx_F) (v1 : Int32) (v2 : Int32) (v3 : Int32) (v4 : Int32) (v5 : Int32) (v6 : Int32) (v8 : Int32), (vp_in v2 400 ∧ ∀ g18 : sx_F, g18 = sx_u f 17 v2.toNatClampNeg v6 → (vp_in v2 400 ∧ ∀ g19 : sx_F, g19 = sx_u g18 19 v2.toNatClampNeg (4 + v8) → (∀ y20 : Int32, y20 = v2 + 1 → B195 g19 v1 y20 v3 v4 v5 v6))) → B174 f v1 v2 v3 v4 v5 v6 v8) →
  (∀ (f : sx_F) (v1 : Int32) (v2 : Int32) (v3 : Int32) (v4 : Int32) (v5 : Int32) (v6 : Int32), (∀ y21 : Int32, y21 = v6 + 1 → B78 f v1 v2 v3 v4 v5 y21) → B195 f v1 v2 v3 v4 v5 v6) →
  (∀ (f : sx_F) (v1 : Int32) (v2 : Int32) (v3 : Int32), (vp_in v1 13 ∧ (∀ y22 : Int32, y22 = (f 16 v1.toNatClampNeg) → B209 f v1 v2 v3 y22)) → B201 f v1 v2 v3) →
  (∀ (f : sx_F) (v1 : Int32) (v2 : Int32) (v3 : Int32) (v6 : Int32), ((v2 ≤ v6 → (vp_in v1 12 ∧ (((f 15 v1.toNatClampNeg) = (-1) → (vp_in v2 400 ∧ ∀ g25 : sx_F, g25 = sx_u f 17 v2.toNatClampNeg 0 → (vp_in v2 400 ∧ ∀ g26 : sx_F, g26 = sx_u g25 18 v2.toNatClampNeg 24 → (vp_in v2 400 ∧ ∀ g27 : sx_F, g27 = sx_u g26 19 v2.toNatClampNeg 16 → (∀ y28 : Int32, y28 = v2 + 1 → B336 g27 v1 y28))))) ∧ (¬ (f 15 v1.toNatClampNeg) = (-1) → B336 f v1 v2)))) ∧ (¬ v2 ≤ v6 → ((v2 ≤ (v6 + 1) → (vp_in v3 12 ∧ B241 f v1 v2 v3 v6 (f 1 v3.toNatClampNeg))) ∧ (¬ v2 ≤ (v6 + 1) → (vp_in (v6 + 1) 400 ∧ B241 f v1 v2 v3 v6 (f 17 (v6 + 1).toNatClampNeg)))))) → B209 f v1 v2 v3 v6) →
  (∀ (f : sx_F) (v1 : Int32) (v2 : Int32) (v3 : Int32) (v6 : Int32) (s0 : Int32), (vp_in v6 400 ∧ (∀ y30 : Int32, y30 = (s0 - (f 17 v6.toNatClampNeg)) → (P_X7_halvings f y30 (fun r31 => (∀ y33 : Int32, y33 = (6 + (3 * r31)) → (vp_in v6 400 ∧ (((f 19 v6.toNatClampNeg) ≤ y33 → B293 f v1 v2 v3 v6 v6 y33) ∧ (¬ (f 19 v6.toNatClampNeg) ≤ y33 → (vp_in v6 400 ∧ B293 f v1 v2 v3 v6 v6 (f 19 v6.toNatClampNeg)))))))))) → B241 f v1 v2 v3 v6 s0) →
  (∀ (f : sx_F) (v1 : Int32) (v2 : Int32) (v3 : Int32) (v6 : Int32) (s1 : Int32) (s2 : Int32), (vp_in s1 400 ∧ ∀ g35 : sx_F, g35 = sx_u f 18 s1.toNatClampNeg s2 → (∀ y36 : Int32, y36 = v6 + 1 → B209 g35 v1 v2 v3 y36)) → B293 f v1 v2 v3 v6 s1 s2) →
  (∀ (f : sx_F) (v1 : Int32) (v2 : Int32), (vp_in (v1 + 1) 13 ∧ ∀ g37 : sx_F, g37 = sx_u f 16 (v1 + 1).toNatClampNeg v2 → (vp_in v1 12 ∧ ∀ g38 : sx_F, g38 = sx_u g37 20 v1.toNatClampNeg 8 → (vp_in v1 12 ∧ ∀ g39 : sx_F, g39 = sx_u g38 21 v1.toNatClampNeg 8 → (vp_in v1 13 ∧ (∀ y40 : Int32, y40 = (g39 16 v1.toNatClampNeg) → B369 g39 v1 v2 y40))))) → B336 f v1 v2) →
  (∀ (f : sx_F) (v1 : Int32) (v2 : Int32) (v6 : Int32), ((v2 ≤ v6 → (∀ y42 : Int32, y42 = v1 + 1 → B9 f y42)) ∧ (¬ v2 ≤ v6 → (vp_in v1 12 ∧ (vp_in v6 400 ∧ (vp_in v1 12 ∧ ∀ g43 : sx_F, g43 = sx_u f 20 v1.toNatClampNeg ((f 20 v1.toNatClampNeg) + (f 18 v6.toNatClampNeg)) → (vp_in v1 12 ∧ (vp_in v6 400 ∧ (vp_in v1 12 ∧ ∀ g44 : sx_F, g44 = sx_u g43 21 v1.toNatClampNeg ((g43 21 v1.toNatClampNeg) + (g43 19 v6.toNatClampNeg)) → (∀ y45 : Int32, y45 = v6 + 1 → B369 g44 v1 v2 y45))))))))) → B369 f v1 v2 v6) →
  (vp_in 0 13 ∧ ∀ g46 : sx_F, g46 = sx_u f 16 (0 : Int32).toNatClampNeg 0 → B9 g46 0)
def P_X7_silentTo (f : sx_F) (x1 : Int32) (x2 : Int32) (Q : Int32 → Prop) : Prop :=
  ∀ (B5 : Int32 → Int32 → Prop),
  ∀ (B24 : Int32 → Int32 → Int32 → Int32 → Int32 → Prop),
  ∀ (B67 : Int32 → Int32 → Int32 → Int32 → Int32 → Prop),
  (∀ (v3 : Int32) (v4 : Int32), ((v4 < 0 → Q v3) ∧ (¬ v4 < 0 → (P_X7_cell f x1 v4 (fun r2 => B24 v3 v4 r2 0 0)))) → B5 v3 v4) →
  (∀ (v3 : Int32) (v4 : Int32) (v5 : Int32) (v6 : Int32) (v7 : Int32), (vp_in v5 60 ∧ (((f 4 v5.toNatClampNeg) ≤ v7 → (vp_in v4 12 ∧ (∀ y5 : Int32, y5 = (v3 + ((f 1 v4.toNatClampNeg) - v6)) → ((v6 ≤ 0 → (∀ y7 : Int32, y7 = v4 + (-1) → B5 y5 y7)) ∧ (¬ v6 ≤ 0 → Q y5))))) ∧ (¬ (f 4 v5.toNatClampNeg) ≤ v7 → (vp_in ((8 * v5) + v7) 480 ∧ (((f 3 ((8 * v5) + v7).toNatClampNeg) ≤ 0 → B67 v3 v4 v5 v7 v6) ∧ (¬ (f 3 ((8 * v5) + v7).toNatClampNeg) ≤ 0 → (P_X7_filled f v5 (v7 + 1) (fun r9 => B67 v3 v4 v5 v7 r9)))))))) → B24 v3 v4 v5 v6 v7) →
  (∀ (v3 : Int32) (v4 : Int32) (v5 : Int32) (v7 : Int32) (s0 : Int32), (∀ y11 : Int32, y11 = v7 + 1 → B24 v3 v4 v5 s0 y11) → B67 v3 v4 v5 v7 s0) →
  B5 0 x2
def P_X7_silentFrom (f : sx_F) (x1 : Int32) (x2 : Int32) (Q : Int32 → Prop) : Prop :=
  ∀ (B5 : Int32 → Int32 → Prop),
  ∀ (B25 : Int32 → Int32 → Int32 → Int32 → Prop),
  (∀ (v3 : Int32) (v4 : Int32), (((f 0 5) ≤ v4 → Q v3) ∧ (¬ (f 0 5) ≤ v4 → (P_X7_cell f x1 v4 (fun r2 => B25 v3 v4 r2 0)))) → B5 v3 v4) →
  (∀ (v3 : Int32) (v4 : Int32) (v5 : Int32) (v6 : Int32), (vp_in v5 60 ∧ (((f 4 v5.toNatClampNeg) ≤ v6 → (vp_in v4 12 ∧ (∀ y5 : Int32, y5 = (v3 + (f 1 v4.toNatClampNeg)) → (∀ y6 : Int32, y6 = v4 + 1 → B5 y5 y6)))) ∧ (¬ (f 4 v5.toNatClampNeg) ≤ v6 → (vp_in ((8 * v5) + v6) 480 ∧ (((f 3 ((8 * v5) + v6).toNatClampNeg) ≤ 0 → (∀ y8 : Int32, y8 = v6 + 1 → B25 v3 v4 v5 y8)) ∧ (¬ (f 3 ((8 * v5) + v6).toNatClampNeg) ≤ 0 → (P_X7_filled f v5 v6 (fun r9 => Q (v3 + r9))))))))) → B25 v3 v4 v5 v6) →
  B5 0 x2
def P_X7_turnCost (f : sx_F) (x1 : Int32) (x2 : Int32) (Q : Int32 → Prop) : Prop :=
  ∀ (B27 : Int32 → Prop),
  (∀ (s0 : Int32), ((s0 ≤ 0 → Q 0) ∧ (¬ s0 ≤ 0 → Q (100 * s0))) → B27 s0) →
  ((x1 = 5 → B27 0) ∧ (¬ x1 = 5 → (P_X7_silentTo f x1 x2 (fun r3 => (P_X7_silentFrom f x1 (x2 + 1) (fun r5 => B27 ((16 - r3) - r5)))))))
def P_X7_badness (f : sx_F) (x1 : Int32) (x2 : Int32) (Q : Int32 → Prop) : Prop :=
  ∀ (B18 : Int32 → Int32 → Prop),
  ∀ (B32 : Int32 → Prop),
  (∀ (v3 : Int32) (s0 : Int32), ((x2 = 0 → B32 s0) ∧ (¬ x2 = 0 → ((v3 ≤ 0 → B32 s0) ∧ (¬ v3 ≤ 0 → Q 0)))) → B18 v3 s0) →
  (∀ (v4 : Int32), Q (v4 * v4) → B32 v4) →
  (∀ y3 : Int32, y3 = ((f 0 6) - x1) → ((0 ≤ y3 → B18 y3 y3) ∧ (¬ 0 ≤ y3 → B18 y3 (2 * y3))))
def P_X7_breaks (f : sx_F) (x1 : Int32) (Q : sx_F → Prop) : Prop :=
  ∀ (B2 : sx_F → Int32 → Prop),
  ∀ (B53 : sx_F → Int32 → Prop),
  ∀ (B59 : sx_F → Int32 → Int32 → Prop),
  ∀ (B92 : sx_F → Int32 → Int32 → Int32 → Int32 → Int32 → Int32 → Prop),
  ∀ (B151 : sx_F → Int32 → Int32 → Int32 → Int32 → Int32 → Int32 → Int32 → Prop),
  ∀ (B225 : sx_F → Int32 → Int32 → Int32 → Int32 → Int32 → Int32 → Int32 → Int32 → Prop),
  ∀ (B226 : sx_F → Int32 → Int32 → Int32 → Int32 → Int32 → Int32 → Int32 → Int32 → Int32 → Prop),
  ∀ (B282 : sx_F → Int32 → Int32 → Int32 → Int32 → Int32 → Int32 → Int32 → Int32 → Prop),
  ∀ (B286 : sx_F → Int32 → Int32 → Int32 → Int32 → Int32 → Int32 → Int32 → Int32 → Prop),
  ∀ (B287 : sx_F → Int32 → Int32 → Int32 → Int32 → Int32 → Int32 → Int32 → Int32 → Int32 → Prop),
  ∀ (B304 : sx_F → Int32 → Int32 → Int32 → Int32 → Int32 → Int32 → Int32 → Int32 → Int32 → Prop),
  ∀ (B343 : sx_F → Int32 → Int32 → Int32 → Int32 → Int32 → Int32 → Prop),
  ∀ (B373 : sx_F → Int32 → Prop),
  ∀ (B407 : sx_F → Int32 → Int32 → Int32 → Int32 → Prop),
  ∀ (B487 : sx_F → Int32 → Int32 → Prop),
  ∀ (B488 : sx_F → Int32 → Int32 → Int32 → Prop),
  (∀ (f : sx_F) (v2 : Int32), (((f 0 7) ≤ v2 → (∀ y2 : Int32, y2 = ((f 0 20) - 1) → B53 f y2)) ∧ (¬ (f 0 7) ≤ v2 → (vp_in ((6 * (f 0 20)) + v2) 78 ∧ ∀ g3 : sx_F, g3 = sx_u f 22 ((6 * (f 0 20)) + v2).toNatClampNeg 0 → (vp_in ((6 * (g3 0 20)) + v2) 78 ∧ ∀ g4 : sx_F, g4 = sx_u g3 23 ((6 * (g3 0 20)) + v2).toNatClampNeg 0 → (∀ y5 : Int32, y5 = v2 + 1 → B2 g4 y5))))) → B2 f v2) →
  (∀ (f : sx_F) (v2 : Int32), ((v2 < 0 → (∀ g7 : sx_F, g7 = sx_u f 0 31 0 → (∀ g8 : sx_F, g8 = sx_u g7 0 32 0 → B373 g8 0))) ∧ (¬ v2 < 0 → B59 f v2 0)) → B53 f v2) →
  (∀ (f : sx_F) (v2 : Int32) (v3 : Int32), (((f 0 7) ≤ v3 → (∀ y10 : Int32, y10 = v2 + (-1) → B53 f y10)) ∧ (¬ (f 0 7) ≤ v3 → (∀ y11 : Int32, y11 = ((6 * v2) + v3) → (vp_in y11 78 ∧ ∀ g12 : sx_F, g12 = sx_u f 24 y11.toNatClampNeg 0 → B92 g12 v2 v3 y11 0 0 1)))) → B59 f v2 v3) →
  (∀ (f : sx_F) (v2 : Int32) (v3 : Int32) (v4 : Int32) (v5 : Int32) (v6 : Int32) (v7 : Int32), (((f 0 20) < (v2 + v7) → (∀ y14 : Int32, y14 = v3 + 1 → B59 f v2 y14)) ∧ (¬ (f 0 20) < (v2 + v7) → (vp_in ((v2 + v7) - 1) 12 ∧ (∀ y15 : Int32, y15 = (v5 + (f 20 ((v2 + v7) - 1).toNatClampNeg)) → (vp_in ((v2 + v7) - 1) 12 ∧ (∀ y16 : Int32, y16 = (v6 + (f 21 ((v2 + v7) - 1).toNatClampNeg)) → (((v2 + v7) = (f 0 20) → B151 f v2 v3 v4 y15 y16 v7 1) ∧ (¬ (v2 + v7) = (f 0 20) → B151 f v2 v3 v4 y15 y16 v7 0)))))))) → B92 f v2 v3 v4 v5 v6 v7) →
  (∀ (f : sx_F) (v2 : Int32) (v3 : Int32) (v4 : Int32) (v5 : Int32) (v6 : Int32) (v7 : Int32) (s0 : Int32), (¬ (f 0 7) = 0 ∧ (∀ y18 : Int32, y18 = ((6 * (v2 + v7)) + ((v3 + 1) - (v3 + 1) / (f 0 7) * (f 0 7))) → (P_X7_badness f v5 s0 (fun r19 => (vp_in y18 78 ∧ (∀ y21 : Int32, y21 = (r19 + (f 22 y18.toNatClampNeg)) → ((v3 = ((f 0 7) - 1) → ((s0 = 0 → (vp_in ((v2 + v7) - 1) 12 ∧ (P_X7_turnCost f x1 (f 14 ((v2 + v7) - 1).toNatClampNeg) (fun r24 => B226 f v2 v3 v4 v5 v6 v7 y18 y21 r24)))) ∧ (¬ s0 = 0 → B225 f v2 v3 v4 v5 v6 v7 y18 y21))) ∧ (¬ v3 = ((f 0 7) - 1) → B225 f v2 v3 v4 v5 v6 v7 y18 y21)))))))) → B151 f v2 v3 v4 v5 v6 v7 s0) →
  (∀ (f : sx_F) (v2 : Int32) (v3 : Int32) (v4 : Int32) (v5 : Int32) (v6 : Int32) (v7 : Int32) (v9 : Int32) (s0 : Int32), B226 f v2 v3 v4 v5 v6 v7 v9 s0 0 → B225 f v2 v3 v4 v5 v6 v7 v9 s0) →
  (∀ (f : sx_F) (v2 : Int32) (v3 : Int32) (v4 : Int32) (v5 : Int32) (v6 : Int32) (v7 : Int32) (v9 : Int32) (s0 : Int32) (s1 : Int32), (∀ y26 : Int32, y26 = (s0 + s1) → (vp_in v4 78 ∧ (((f 24 v4.toNatClampNeg) = 0 → B282 f v2 v3 v4 v5 v6 v7 v9 y26) ∧ (¬ (f 24 v4.toNatClampNeg) = 0 → (vp_in v4 78 ∧ ((y26 < (f 22 v4.toNatClampNeg) → B282 f v2 v3 v4 v5 v6 v7 v9 y26) ∧ (¬ y26 < (f 22 v4.toNatClampNeg) → (vp_in v4 78 ∧ ((y26 = (f 22 v4.toNatClampNeg) → (vp_in v9 78 ∧ (vp_in v4 78 ∧ (((f 23 v4.toNatClampNeg) ≤ ((f 23 v9.toNatClampNeg) + 1) → B286 f v2 v3 v4 v5 v6 v7 v9 y26) ∧ (¬ (f 23 v4.toNatClampNeg) ≤ ((f 23 v9.toNatClampNeg) + 1) → B282 f v2 v3 v4 v5 v6 v7 v9 y26))))) ∧ (¬ y26 = (f 22 v4.toNatClampNeg) → B286 f v2 v3 v4 v5 v6 v7 v9 y26)))))))))) → B226 f v2 v3 v4 v5 v6 v7 v9 s0 s1) →
  (∀ (f : sx_F) (v2 : Int32) (v3 : Int32) (v4 : Int32) (v5 : Int32) (v6 : Int32) (v7 : Int32) (v9 : Int32) (v10 : Int32), B287 f v2 v3 v4 v5 v6 v7 v9 v10 1 → B282 f v2 v3 v4 v5 v6 v7 v9 v10) →
  (∀ (f : sx_F) (v2 : Int32) (v3 : Int32) (v4 : Int32) (v5 : Int32) (v6 : Int32) (v7 : Int32) (v9 : Int32) (v10 : Int32), B287 f v2 v3 v4 v5 v6 v7 v9 v10 0 → B286 f v2 v3 v4 v5 v6 v7 v9 v10) →
  (∀ (f : sx_F) (v2 : Int32) (v3 : Int32) (v4 : Int32) (v5 : Int32) (v6 : Int32) (v7 : Int32) (v9 : Int32) (v10 : Int32) (s0 : Int32), ((v7 = 1 → B304 f v2 v3 v4 v5 v6 v7 v9 v10 s0) ∧ (¬ v7 = 1 → (((f 0 6) < v6 → B343 f v2 v3 v4 v5 v6 v7) ∧ (¬ (f 0 6) < v6 → B304 f v2 v3 v4 v5 v6 v7 v9 v10 s0)))) → B287 f v2 v3 v4 v5 v6 v7 v9 v10 s0) →
  (∀ (f : sx_F) (v2 : Int32) (v3 : Int32) (v4 : Int32) (v5 : Int32) (v6 : Int32) (v7 : Int32) (v9 : Int32) (v10 : Int32) (v11 : Int32), ((v11 = 0 → B343 f v2 v3 v4 v5 v6 v7) ∧ (¬ v11 = 0 → (vp_in v4 78 ∧ ∀ g34 : sx_F, g34 = sx_u f 24 v4.toNatClampNeg v7 → (vp_in v4 78 ∧ ∀ g35 : sx_F, g35 = sx_u g34 22 v4.toNatClampNeg v10 → (vp_in v9 78 ∧ (vp_in v4 78 ∧ ∀ g36 : sx_F, g36 = sx_u g35 23 v4.toNatClampNeg ((g35 23 v9.toNatClampNeg) + 1) → B343 g36 v2 v3 v4 v5 v6 v7)))))) → B304 f v2 v3 v4 v5 v6 v7 v9 v10 v11) →
  (∀ (f : sx_F) (v2 : Int32) (v3 : Int32) (v4 : Int32) (v5 : Int32) (v6 : Int32) (v7 : Int32), (∀ y37 : Int32, y37 = v7 + 1 → B92 f v2 v3 v4 v5 v6 y37) → B343 f v2 v3 v4 v5 v6 v7) →
  (∀ (f : sx_F) (v2 : Int32), (((f 0 20) ≤ v2 → Q f) ∧ (¬ (f 0 20) ≤ v2 → (¬ (f 0 7) = 0 ∧ (∀ y39 : Int32, y39 = ((f 0 31) - (f 0 31) / (f 0 7) * (f 0 7)) → (vp_in ((6 * v2) + y39) 78 ∧ (∀ y40 : Int32, y40 = (f 24 ((6 * v2) + y39).toNatClampNeg) → B407 f v2 y39 y40 v2)))))) → B373 f v2) →
  (∀ (f : sx_F) (v2 : Int32) (v3 : Int32) (v4 : Int32) (v5 : Int32), (((v2 + v4) ≤ v5 → (∀ y42 : Int32, y42 = (v2 + v4) → (∀ g43 : sx_F, g43 = sx_u f 0 31 ((f 0 31) + 1) → ((v3 = ((g43 0 7) - 1) → (((g43 0 20) ≤ y42 → B487 g43 y42 (g43 0 32)) ∧ (¬ (g43 0 20) ≤ y42 → (vp_in (y42 - 1) 12 ∧ (P_X7_turnCost g43 x1 (g43 14 (y42 - 1).toNatClampNeg) (fun r46 => B488 g43 y42 (g43 0 32) r46)))))) ∧ (¬ v3 = ((g43 0 7) - 1) → B487 g43 y42 (g43 0 32)))))) ∧ (¬ (v2 + v4) ≤ v5 → (vp_in v5 12 ∧ ∀ g48 : sx_F, g48 = sx_u f 25 v5.toNatClampNeg (f 0 31) → (∀ y49 : Int32, y49 = v5 + 1 → B407 g48 v2 v3 v4 y49)))) → B407 f v2 v3 v4 v5) →
  (∀ (f : sx_F) (v2 : Int32) (s1 : Int32), B488 f v2 s1 0 → B487 f v2 s1) →
  (∀ (f : sx_F) (v2 : Int32) (s1 : Int32) (s2 : Int32), (∀ g50 : sx_F, g50 = sx_u f 0 32 (s1 + s2) → B373 g50 v2) → B488 f v2 s1 s2) →
  B2 f 0
def P_X7_lays (f : sx_F) (x1 : Int32) (Q : sx_F → Prop) : Prop :=
  (P_X7_laysItems f x1 (fun g1 => (P_X7_laysSprings g1 (fun g2 => (P_X7_breaks g2 x1 (fun g3 => Q g3))))))
def P_X7_itemWith (f : sx_F) (x1 : Int32) (Q : Int32 → Prop) : Prop :=
  ∀ (B2 : Int32 → Prop),
  (∀ (v2 : Int32), (vp_in v2 12 ∧ ((x1 ≤ (f 14 v2.toNatClampNeg) → Q v2) ∧ (¬ x1 ≤ (f 14 v2.toNatClampNeg) → (∀ y2 : Int32, y2 = v2 + 1 → B2 y2)))) → B2 v2) →
  B2 0
def P_X7_items (f : sx_F) (x1 : Int32) (Q : Int32 → sx_F → Prop) : Prop :=
  (P_X7_isBook f x1 (fun r1 => (P_X7_goes f r1 1 1 (fun r4 g3 => ((r4 = 0 → Q 0 g3) ∧ (¬ r4 = 0 → (P_X7_laysItems g3 x1 (fun g6 => Q (g6 0 20) g6))))))))
def P_X7_itemOf (f : sx_F) (x1 : Int32) (x2 : Int32) (Q : Int32 → sx_F → Prop) : Prop :=
  ∀ (B20 : sx_F → Prop),
  ∀ (B21 : sx_F → Int32 → Prop),
  (∀ (f : sx_F), B21 f 0 → B20 f) →
  (∀ (f : sx_F) (s1 : Int32), (P_X7_goes f s1 1 1 (fun r2 g1 => ((r2 = 0 → Q 0 g1) ∧ (¬ r2 = 0 → (P_X7_laysItems g1 x1 (fun g4 => (P_X7_itemWith g4 x2 (fun r5 => Q r5 g4)))))))) → B21 f s1) →
  (P_X7_isBook f x1 (fun r7 => ((r7 = 0 → B20 f) ∧ (¬ r7 = 0 → (P_X7_isBar f x2 (fun r10 => ((r10 = 0 → B20 f) ∧ (¬ r10 = 0 → B21 f 1))))))))
def P_X7_cue (f : sx_F) (x1 : Int32) (x2 : Int32) (Q : Int32 → sx_F → Prop) : Prop :=
  ∀ (B20 : sx_F → Prop),
  ∀ (B21 : sx_F → Int32 → Prop),
  (∀ (f : sx_F), B21 f 0 → B20 f) →
  (∀ (f : sx_F) (s1 : Int32), (P_X7_goes f s1 1 1 (fun r2 g1 => ((r2 = 0 → Q 0 g1) ∧ (¬ r2 = 0 → (P_X7_laysItems g1 x1 (fun g4 => (P_X7_itemWith g4 x2 (fun r5 => (vp_in r5 12 ∧ (∀ y7 : Int32, y7 = (g4 15 r5.toNatClampNeg) → ((y7 = x1 → Q (-1) g4) ∧ (¬ y7 = x1 → Q y7 g4)))))))))))) → B21 f s1) →
  (P_X7_isInstrument f x1 (fun r9 => ((r9 = 0 → B20 f) ∧ (¬ r9 = 0 → (P_X7_isBar f x2 (fun r12 => ((r12 = 0 → B20 f) ∧ (¬ r12 = 0 → B21 f 1))))))))
def P_X7_width (f : sx_F) (x1 : Int32) (x2 : Int32) (Q : Int32 → sx_F → Prop) : Prop :=
  ∀ (B14 : sx_F → Int32 → Prop),
  ∀ (B37 : sx_F → Prop),
  ∀ (B38 : sx_F → Int32 → Prop),
  (∀ (f : sx_F) (v3 : Int32), ((v3 = 0 → B37 f) ∧ (¬ v3 = 0 → (P_X7_in f x2 0 ((f 0 20) - 1) (fun r2 => ((r2 = 0 → B37 f) ∧ (¬ r2 = 0 → B38 f 1)))))) → B14 f v3) →
  (∀ (f : sx_F), B38 f 0 → B37 f) →
  (∀ (f : sx_F) (s1 : Int32), (P_X7_goes f s1 1 1 (fun r6 g5 => ((r6 = 0 → Q 0 g5) ∧ (¬ r6 = 0 → (vp_in x2 12 ∧ Q (g5 20 x2.toNatClampNeg) g5))))) → B38 f s1) →
  (P_X7_isBook f x1 (fun r8 => ((r8 = 0 → B14 f r8) ∧ (¬ r8 = 0 → (P_X7_lays f x1 (fun g11 => B14 g11 r8))))))
def P_X7_lines (f : sx_F) (x1 : Int32) (Q : Int32 → sx_F → Prop) : Prop :=
  (P_X7_isBook f x1 (fun r1 => (P_X7_goes f r1 1 1 (fun r4 g3 => ((r4 = 0 → Q 0 g3) ∧ (¬ r4 = 0 → (P_X7_lays g3 x1 (fun g6 => Q (g6 0 31) g6))))))))
def P_X7_lineOf (f : sx_F) (x1 : Int32) (x2 : Int32) (Q : Int32 → sx_F → Prop) : Prop :=
  ∀ (B20 : sx_F → Prop),
  ∀ (B21 : sx_F → Int32 → Prop),
  (∀ (f : sx_F), B21 f 0 → B20 f) →
  (∀ (f : sx_F) (s1 : Int32), (P_X7_goes f s1 1 1 (fun r2 g1 => ((r2 = 0 → Q 0 g1) ∧ (¬ r2 = 0 → (P_X7_lays g1 x1 (fun g4 => (P_X7_itemWith g4 x2 (fun r5 => (vp_in r5 12 ∧ Q (g4 25 r5.toNatClampNeg) g4))))))))) → B21 f s1) →
  (P_X7_isBook f x1 (fun r7 => ((r7 = 0 → B20 f) ∧ (¬ r7 = 0 → (P_X7_isBar f x2 (fun r10 => ((r10 = 0 → B20 f) ∧ (¬ r10 = 0 → B21 f 1))))))))
def P_X7_cost (f : sx_F) (x1 : Int32) (Q : Int32 → sx_F → Prop) : Prop :=
  (P_X7_isBook f x1 (fun r1 => (P_X7_goes f r1 1 1 (fun r4 g3 => ((r4 = 0 → Q 0 g3) ∧ (¬ r4 = 0 → (P_X7_lays g3 x1 (fun g6 => (((g6 0 20) = 0 → Q 0 g6) ∧ (¬ (g6 0 20) = 0 → (vp_in 0 78 ∧ Q (g6 22 (0 : Int32).toNatClampNeg) g6)))))))))))
def P_X7_costByAll (f : sx_F) (x1 : Int32) (Q : Int32 → sx_F → Prop) : Prop :=
  (P_X7_cost f x1 (fun r2 g1 => Q r2 g1))
def P_X7_turns (f : sx_F) (x1 : Int32) (Q : Int32 → sx_F → Prop) : Prop :=
  (P_X7_isBook f x1 (fun r1 => (P_X7_goes f r1 1 1 (fun r4 g3 => ((r4 = 0 → Q 0 g3) ∧ (¬ r4 = 0 → (P_X7_lays g3 x1 (fun g6 => Q (g6 0 32) g6))))))))
def P_X7_springAt (f : sx_F) (x1 : Int32) (x2 : Int32) (Q : Int32 → Prop) : Prop :=
  ∀ (B14 : Int32 → Int32 → Prop),
  ∀ (B51 : Int32 → Int32 → Prop),
  (∀ (v3 : Int32) (v4 : Int32), (vp_in (v3 + 1) 13 ∧ (((f 16 (v3 + 1).toNatClampNeg) ≤ v4 → Q (-1)) ∧ (¬ (f 16 (v3 + 1).toNatClampNeg) ≤ v4 → (vp_in v3 12 ∧ (((f 13 v3.toNatClampNeg) = x1 → (vp_in v4 400 ∧ (((f 17 v4.toNatClampNeg) = x2 → Q v4) ∧ (¬ (f 17 v4.toNatClampNeg) = x2 → B51 v3 v4)))) ∧ (¬ (f 13 v3.toNatClampNeg) = x1 → B51 v3 v4)))))) → B14 v3 v4) →
  (∀ (v3 : Int32) (v4 : Int32), (∀ y4 : Int32, y4 = v4 + 1 → B14 v3 y4) → B51 v3 v4) →
  (P_X7_itemWith f x1 (fun r5 => (vp_in r5 13 ∧ (∀ y7 : Int32, y7 = (f 16 r5.toNatClampNeg) → B14 r5 y7))))
def P_X7_placeOf (f : sx_F) (x1 : Int32) (x2 : Int32) (Q : Int32 → Prop) : Prop :=
  ∀ (B35 : Int32 → Int32 → Int32 → Int32 → Int32 → Int32 → Int32 → Int32 → Int32 → Prop),
  ∀ (B68 : Int32 → Int32 → Int32 → Int32 → Int32 → Int32 → Int32 → Int32 → Int32 → Prop),
  ∀ (B69 : Int32 → Int32 → Int32 → Int32 → Int32 → Int32 → Int32 → Int32 → Int32 → Int32 → Prop),
  ∀ (B91 : Int32 → Int32 → Int32 → Int32 → Int32 → Int32 → Int32 → Int32 → Int32 → Int32 → Prop),
  ∀ (B103 : Int32 → Int32 → Int32 → Int32 → Int32 → Int32 → Int32 → Int32 → Int32 → Int32 → Prop),
  ∀ (B172 : Int32 → Int32 → Int32 → Int32 → Int32 → Int32 → Int32 → Int32 → Int32 → Int32 → Int32 → Prop),
  ∀ (B194 : Int32 → Int32 → Int32 → Int32 → Int32 → Int32 → Int32 → Int32 → Int32 → Int32 → Int32 → Prop),
  ∀ (B203 : Int32 → Int32 → Int32 → Int32 → Int32 → Int32 → Int32 → Int32 → Int32 → Prop),
  ∀ (B264 : Int32 → Int32 → Int32 → Int32 → Int32 → Int32 → Prop),
  ∀ (B298 : Int32 → Int32 → Int32 → Int32 → Int32 → Int32 → Prop),
  (∀ (v3 : Int32) (v4 : Int32) (v5 : Int32) (v6 : Int32) (v7 : Int32) (v8 : Int32) (v9 : Int32) (v10 : Int32) (v11 : Int32), (((f 0 20) ≤ v11 → (∀ y2 : Int32, y2 = (((8 * v10) + 4) + v5) → (∀ y3 : Int32, y3 = (((f 0 6) - (8 * v9)) - v7) → ((y3 ≤ 0 → B264 v5 v6 v7 v8 y2 y3) ∧ (¬ y3 ≤ 0 → ((((f 0 31) - 1) ≤ v4 → B264 v5 v6 v7 v8 y2 y3) ∧ (¬ ((f 0 31) - 1) ≤ v4 → (¬ v7 = 0 ∧ Q (y2 + ((y3 * v5) / v7)))))))))) ∧ (¬ (f 0 20) ≤ v11 → (vp_in v11 12 ∧ (((f 25 v11.toNatClampNeg) = v4 → ((v3 ≤ v11 → B68 v3 v4 v5 v6 v7 v8 v9 v11 v10) ∧ (¬ v3 ≤ v11 → B69 v3 v4 v5 v6 v7 v8 v9 v11 v10 1))) ∧ (¬ (f 25 v11.toNatClampNeg) = v4 → B68 v3 v4 v5 v6 v7 v8 v9 v11 v10))))) → B35 v3 v4 v5 v6 v7 v8 v9 v10 v11) →
  (∀ (v3 : Int32) (v4 : Int32) (v5 : Int32) (v6 : Int32) (v7 : Int32) (v8 : Int32) (v9 : Int32) (v11 : Int32) (s0 : Int32), B69 v3 v4 v5 v6 v7 v8 v9 v11 s0 0 → B68 v3 v4 v5 v6 v7 v8 v9 v11 s0) →
  (∀ (v3 : Int32) (v4 : Int32) (v5 : Int32) (v6 : Int32) (v7 : Int32) (v8 : Int32) (v9 : Int32) (v11 : Int32) (s0 : Int32) (s1 : Int32), (∀ y8 : Int32, y8 = (s0 + s1) → (vp_in v11 12 ∧ (((f 25 v11.toNatClampNeg) = v4 → B91 v3 v4 v5 v6 v7 v8 y8 v11 v9 1) ∧ (¬ (f 25 v11.toNatClampNeg) = v4 → B91 v3 v4 v5 v6 v7 v8 y8 v11 v9 0)))) → B69 v3 v4 v5 v6 v7 v8 v9 v11 s0 s1) →
  (∀ (v3 : Int32) (v4 : Int32) (v5 : Int32) (v6 : Int32) (v7 : Int32) (v8 : Int32) (v10 : Int32) (v11 : Int32) (s0 : Int32) (s1 : Int32), (∀ y10 : Int32, y10 = (s0 + s1) → (vp_in v11 13 ∧ (∀ y11 : Int32, y11 = (f 16 v11.toNatClampNeg) → B103 v3 v4 v5 v6 v7 v8 y10 v10 v11 y11))) → B91 v3 v4 v5 v6 v7 v8 v10 v11 s0 s1) →
  (∀ (v3 : Int32) (v4 : Int32) (v5 : Int32) (v6 : Int32) (v7 : Int32) (v8 : Int32) (v9 : Int32) (v10 : Int32) (v11 : Int32) (v12 : Int32), (vp_in (v11 + 1) 13 ∧ (((f 16 (v11 + 1).toNatClampNeg) ≤ v12 → B203 v3 v4 v5 v6 v7 v8 v9 v10 v11) ∧ (¬ (f 16 (v11 + 1).toNatClampNeg) ≤ v12 → (vp_in v11 12 ∧ (((f 25 v11.toNatClampNeg) = v4 → (vp_in v12 400 ∧ (∀ y14 : Int32, y14 = (v7 + (f 18 v12.toNatClampNeg)) → (vp_in v12 400 ∧ (∀ y15 : Int32, y15 = (v8 + (f 19 v12.toNatClampNeg)) → ((x2 ≤ v12 → B172 v3 v4 v6 y14 y15 v9 v10 v11 v12 v5 0) ∧ (¬ x2 ≤ v12 → (vp_in v12 400 ∧ B172 v3 v4 v6 y14 y15 v9 v10 v11 v12 v5 (f 18 v12.toNatClampNeg))))))))) ∧ (¬ (f 25 v11.toNatClampNeg) = v4 → B203 v3 v4 v5 v6 v7 v8 v9 v10 v11)))))) → B103 v3 v4 v5 v6 v7 v8 v9 v10 v11 v12) →
  (∀ (v3 : Int32) (v4 : Int32) (v6 : Int32) (v7 : Int32) (v8 : Int32) (v9 : Int32) (v10 : Int32) (v11 : Int32) (v12 : Int32) (s0 : Int32) (s1 : Int32), (∀ y17 : Int32, y17 = (s0 + s1) → ((x2 ≤ v12 → B194 v3 v4 y17 v7 v8 v9 v10 v11 v12 v6 0) ∧ (¬ x2 ≤ v12 → (vp_in v12 400 ∧ B194 v3 v4 y17 v7 v8 v9 v10 v11 v12 v6 (f 19 v12.toNatClampNeg))))) → B172 v3 v4 v6 v7 v8 v9 v10 v11 v12 s0 s1) →
  (∀ (v3 : Int32) (v4 : Int32) (v5 : Int32) (v7 : Int32) (v8 : Int32) (v9 : Int32) (v10 : Int32) (v11 : Int32) (v12 : Int32) (s0 : Int32) (s1 : Int32), (∀ y19 : Int32, y19 = (s0 + s1) → (∀ y20 : Int32, y20 = v12 + 1 → B103 v3 v4 v5 y19 v7 v8 v9 v10 v11 y20)) → B194 v3 v4 v5 v7 v8 v9 v10 v11 v12 s0 s1) →
  (∀ (v3 : Int32) (v4 : Int32) (v5 : Int32) (v6 : Int32) (v7 : Int32) (v8 : Int32) (v9 : Int32) (v10 : Int32) (v11 : Int32), (∀ y21 : Int32, y21 = v11 + 1 → B35 v3 v4 v5 v6 v7 v8 v9 v10 y21) → B203 v3 v4 v5 v6 v7 v8 v9 v10 v11) →
  (∀ (v5 : Int32) (v6 : Int32) (v7 : Int32) (v8 : Int32) (v11 : Int32) (v12 : Int32), ((0 ≤ v12 → Q v11) ∧ (¬ 0 ≤ v12 → ((v7 ≤ v8 → Q v11) ∧ (¬ v7 ≤ v8 → (((v7 - v8) ≤ (-v12) → B298 v5 v6 v7 v8 v11 (v7 - v8)) ∧ (¬ (v7 - v8) ≤ (-v12) → B298 v5 v6 v7 v8 v11 (-v12))))))) → B264 v5 v6 v7 v8 v11 v12) →
  (∀ (v5 : Int32) (v6 : Int32) (v7 : Int32) (v8 : Int32) (v11 : Int32) (s0 : Int32), (¬ (v7 - v8) = 0 ∧ Q (v11 - ((s0 * (v5 - v6)) / (v7 - v8)))) → B298 v5 v6 v7 v8 v11 s0) →
  (P_X7_itemWith f x1 (fun r25 => (vp_in r25 12 ∧ (∀ y27 : Int32, y27 = (f 25 r25.toNatClampNeg) → B35 r25 y27 0 0 0 0 0 0 0))))
def P_X7_place (f : sx_F) (x1 : Int32) (x2 : Int32) (x3 : Int32) (Q : Int32 → sx_F → Prop) : Prop :=
  ∀ (B19 : sx_F → Prop),
  ∀ (B20 : sx_F → Int32 → Prop),
  ∀ (B43 : sx_F → Int32 → Prop),
  ∀ (B55 : sx_F → Int32 → Int32 → Prop),
  (∀ (f : sx_F), B20 f 0 → B19 f) →
  (∀ (f : sx_F) (s0 : Int32), ((s0 = 0 → B43 f (-1)) ∧ (¬ s0 = 0 → (P_X7_lays f x1 (fun g2 => (P_X7_springAt g2 x2 x3 (fun r3 => B43 g2 r3)))))) → B20 f s0) →
  (∀ (f : sx_F) (v5 : Int32), ((v5 = (-1) → B55 f v5 0) ∧ (¬ v5 = (-1) → B55 f v5 1)) → B43 f v5) →
  (∀ (f : sx_F) (v5 : Int32) (s1 : Int32), (P_X7_goes f s1 1 1 (fun r7 g6 => ((r7 = 0 → Q 0 g6) ∧ (¬ r7 = 0 → (P_X7_placeOf g6 x2 v5 (fun r9 => Q r9 g6)))))) → B55 f v5 s1) →
  (P_X7_isBook f x1 (fun r11 => ((r11 = 0 → B19 f) ∧ (¬ r11 = 0 → (P_X7_isBar f x2 (fun r14 => ((r14 = 0 → B19 f) ∧ (¬ r14 = 0 → B20 f 1))))))))
def P_X7_copies (f : sx_F)  (Q : Int32 → sx_F → Prop) : Prop :=
  (∀ g1 : sx_F, g1 = sx_u f 0 33 0 → Q (g1 0 11) g1)
def P_X7_deskOf (f : sx_F) (x1 : Int32) (Q : Int32 → sx_F → Prop) : Prop :=
  (P_X7_isCopy f x1 (fun r1 => (P_X7_goes f r1 1 1 (fun r4 g3 => ((r4 = 0 → Q 0 g3) ∧ (¬ r4 = 0 → (vp_in x1 16 ∧ Q (g3 7 x1.toNatClampNeg) g3)))))))
def P_X7_has (f : sx_F) (x1 : Int32) (x2 : Int32) (Q : Int32 → sx_F → Prop) : Prop :=
  ∀ (B21 : sx_F → Prop),
  ∀ (B22 : sx_F → Int32 → Prop),
  (∀ (f : sx_F), B22 f 0 → B21 f) →
  (∀ (f : sx_F) (s1 : Int32), (P_X7_goes f s1 1 1 (fun r2 g1 => ((r2 = 0 → Q 0 g1) ∧ (¬ r2 = 0 → (vp_in x1 16 ∧ (((g1 7 x1.toNatClampNeg) = (-1) → (vp_in x1 16 ∧ (P_X7_cell g1 (g1 6 x1.toNatClampNeg) x2 (fun r5 => (vp_in r5 60 ∧ Q (g1 5 r5.toNatClampNeg) g1))))) ∧ (¬ (g1 7 x1.toNatClampNeg) = (-1) → (vp_in ((12 * x1) + x2) 192 ∧ Q (g1 8 ((12 * x1) + x2).toNatClampNeg) g1)))))))) → B22 f s1) →
  (P_X7_isCopy f x1 (fun r7 => ((r7 = 0 → B21 f) ∧ (¬ r7 = 0 → (P_X7_isBar f x2 (fun r10 => ((r10 = 0 → B21 f) ∧ (¬ r10 = 0 → B22 f 1))))))))
def P_X7_owed (f : sx_F) (x1 : Int32) (Q : Int32 → sx_F → Prop) : Prop :=
  (P_X7_isCopy f x1 (fun r1 => (P_X7_goes f r1 1 1 (fun r4 g3 => ((r4 = 0 → Q 0 g3) ∧ (¬ r4 = 0 → (P_X7_owedBy g3 x1 (fun r6 => Q r6 g3))))))))
def P_X7_markOf (f : sx_F) (x1 : Int32) (x2 : Int32) (x3 : Int32) (Q : Int32 → sx_F → Prop) : Prop :=
  ∀ (B28 : sx_F → Prop),
  ∀ (B29 : sx_F → Int32 → Prop),
  (∀ (f : sx_F), B29 f 0 → B28 f) →
  (∀ (f : sx_F) (s0 : Int32), (P_X7_goes f s0 1 1 (fun r2 g1 => ((r2 = 0 → Q 0 g1) ∧ (¬ r2 = 0 → (P_X7_cell g1 x2 x3 (fun r4 => (vp_in ((60 * x1) + r4) 360 ∧ Q (g1 9 ((60 * x1) + r4).toNatClampNeg) g1))))))) → B29 f s0) →
  (P_X7_in f x1 0 5 (fun r6 => ((r6 = 0 → B28 f) ∧ (¬ r6 = 0 → (P_X7_isInstrument f x2 (fun r9 => ((r9 = 0 → B28 f) ∧ (¬ r9 = 0 → (P_X7_isBar f x3 (fun r12 => ((r12 = 0 → B28 f) ∧ (¬ r12 = 0 → B29 f 1))))))))))))
def P_X7_oldMarks (f : sx_F) (x1 : Int32) (Q : Int32 → sx_F → Prop) : Prop :=
  ∀ (B18 : sx_F → Int32 → Int32 → Int32 → Prop),
  ∀ (B71 : sx_F → Int32 → Int32 → Int32 → Prop),
  ∀ (B72 : sx_F → Int32 → Int32 → Int32 → Int32 → Prop),
  (∀ (f : sx_F) (v2 : Int32) (v3 : Int32) (v4 : Int32), ((v3 = 0 → Q v2 f) ∧ (¬ v3 = 0 → ((60 ≤ v4 → Q v2 f) ∧ (¬ 60 ≤ v4 → (vp_in ((60 * x1) + v4) 360 ∧ (((f 9 ((60 * x1) + v4).toNatClampNeg) ≤ 0 → B71 f v3 v4 v2) ∧ (¬ (f 9 ((60 * x1) + v4).toNatClampNeg) ≤ 0 → (vp_in ((60 * x1) + v4) 360 ∧ (vp_in v4 60 ∧ (((f 10 ((60 * x1) + v4).toNatClampNeg) = (f 5 v4.toNatClampNeg) → B71 f v3 v4 v2) ∧ (¬ (f 10 ((60 * x1) + v4).toNatClampNeg) = (f 5 v4.toNatClampNeg) → B72 f v3 v4 v2 1))))))))))) → B18 f v2 v3 v4) →
  (∀ (f : sx_F) (v3 : Int32) (v4 : Int32) (s0 : Int32), B72 f v3 v4 s0 0 → B71 f v3 v4 s0) →
  (∀ (f : sx_F) (v3 : Int32) (v4 : Int32) (s0 : Int32) (s1 : Int32), (∀ y5 : Int32, y5 = (s0 + s1) → (∀ y6 : Int32, y6 = v4 + 1 → B18 f y5 v3 y6)) → B72 f v3 v4 s0 s1) →
  (P_X7_in f x1 0 5 (fun r7 => (P_X7_goes f r7 1 1 (fun r10 g9 => B18 g9 0 r10 0))))
def P_X7_clashes (f : sx_F) (x1 : Int32) (Q : Int32 → sx_F → Prop) : Prop :=
  ∀ (B16 : sx_F → Int32 → Int32 → Int32 → Prop),
  ∀ (B40 : sx_F → Int32 → Int32 → Int32 → Int32 → Int32 → Prop),
  ∀ (B55 : sx_F → Int32 → Int32 → Int32 → Int32 → Int32 → Int32 → Prop),
  ∀ (B110 : sx_F → Int32 → Int32 → Int32 → Int32 → Int32 → Int32 → Prop),
  ∀ (B111 : sx_F → Int32 → Int32 → Int32 → Int32 → Int32 → Int32 → Int32 → Prop),
  (∀ (f : sx_F) (v2 : Int32) (v3 : Int32) (v4 : Int32), ((v3 = 0 → Q v2 f) ∧ (¬ v3 = 0 → (((f 0 5) ≤ v4 → Q v2 f) ∧ (¬ (f 0 5) ≤ v4 → (P_X7_cell f x1 v4 (fun r3 => B40 f v2 v3 v4 r3 0)))))) → B16 f v2 v3 v4) →
  (∀ (f : sx_F) (v2 : Int32) (v3 : Int32) (v4 : Int32) (v5 : Int32) (v6 : Int32), (vp_in v5 60 ∧ (((f 4 v5.toNatClampNeg) ≤ v6 → (∀ y6 : Int32, y6 = v4 + 1 → B16 f v2 v3 y6)) ∧ (¬ (f 4 v5.toNatClampNeg) ≤ v6 → B55 f v2 v3 v4 v5 v6 0))) → B40 f v2 v3 v4 v5 v6) →
  (∀ (f : sx_F) (v2 : Int32) (v3 : Int32) (v4 : Int32) (v5 : Int32) (v6 : Int32) (v7 : Int32), ((6 ≤ v7 → (∀ y8 : Int32, y8 = v6 + 1 → B40 f v2 v3 v4 v5 y8)) ∧ (¬ 6 ≤ v7 → (P_X7_bowing f v7 v5 v6 (fun r9 => (P_X7_bowing f (v7 + 1) v5 v6 (fun r11 => ((r9 ≤ 0 → B110 f v3 v4 v5 v6 v7 v2) ∧ (¬ r9 ≤ 0 → ((r11 ≤ 0 → B110 f v3 v4 v5 v6 v7 v2) ∧ (¬ r11 ≤ 0 → ((r9 = r11 → B110 f v3 v4 v5 v6 v7 v2) ∧ (¬ r9 = r11 → B111 f v3 v4 v5 v6 v7 v2 1)))))))))))) → B55 f v2 v3 v4 v5 v6 v7) →
  (∀ (f : sx_F) (v3 : Int32) (v4 : Int32) (v5 : Int32) (v6 : Int32) (v7 : Int32) (s0 : Int32), B111 f v3 v4 v5 v6 v7 s0 0 → B110 f v3 v4 v5 v6 v7 s0) →
  (∀ (f : sx_F) (v3 : Int32) (v4 : Int32) (v5 : Int32) (v6 : Int32) (v7 : Int32) (s0 : Int32) (s1 : Int32), (∀ y16 : Int32, y16 = (s0 + s1) → (∀ y17 : Int32, y17 = v7 + 2 → B55 f y16 v3 v4 v5 v6 y17)) → B111 f v3 v4 v5 v6 v7 s0 s1) →
  (P_X7_isInstrument f x1 (fun r18 => (P_X7_goes f r18 1 1 (fun r21 g20 => B16 g20 0 r21 0))))
def P_X7_concerts (f : sx_F)  (Q : Int32 → sx_F → Prop) : Prop :=
  (∀ g1 : sx_F, g1 = sx_u f 0 33 0 → Q (g1 0 12) g1)
