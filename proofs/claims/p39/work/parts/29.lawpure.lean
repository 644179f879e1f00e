def P_L_bar (f : sx_F) (o : Nat → Int64) (x1 : Int32) (QL : Int32 → sx_F → (Nat → Int64) → Prop) : Prop :=
  P_X6_bar f x1 (fun r f1 => ∀ o1 : Nat → Int64, o1 = vp_updL o 0 r.toInt64 → QL 0 f1 o1) (fun E f1 => (E = "java/lang/IllegalArgumentException" ∧ QL 1 f1 o) ∨ (E = "java/lang/IllegalStateException" ∧ QL 2 f1 o))
def P_L_note (f : sx_F) (o : Nat → Int64) (x1 : Int32) (x2 : Int32) (x3 : Int32) (x4 : Int32) (QL : Int32 → sx_F → (Nat → Int64) → Prop) : Prop :=
  P_X6_note f x1 x2 x3 x4 (fun r f1 => ∀ o1 : Nat → Int64, o1 = vp_updL o 0 r.toInt64 → QL 0 f1 o1) (fun E f1 => (E = "java/lang/IndexOutOfBoundsException" ∧ QL 1 f1 o) ∨ (E = "java/lang/IllegalArgumentException" ∧ QL 2 f1 o) ∨ (E = "java/lang/IllegalStateException" ∧ QL 3 f1 o))
def P_L_mend (f : sx_F) (o : Nat → Int64) (x1 : Int32) (x2 : Int32) (x3 : Int32) (x4 : Int32) (QL : Int32 → sx_F → (Nat → Int64) → Prop) : Prop :=
  P_X6_mend f x1 x2 x3 x4 (fun r f1 => ∀ o1 : Nat → Int64, o1 = vp_updL o 0 r.toInt64 → QL 0 f1 o1) (fun E f1 => (E = "java/lang/IndexOutOfBoundsException" ∧ QL 1 f1 o) ∨ (E = "java/lang/IllegalArgumentException" ∧ QL 2 f1 o))
def P_L_empty (f : sx_F) (o : Nat → Int64) (x1 : Int32) (x2 : Int32) (QL : Int32 → sx_F → (Nat → Int64) → Prop) : Prop :=
  P_X6_empty f x1 x2 (fun r f1 => ∀ o1 : Nat → Int64, o1 = vp_updL o 0 r.toInt64 → QL 0 f1 o1) (fun E f1 => (E = "java/lang/IndexOutOfBoundsException" ∧ QL 1 f1 o))
def P_L_setPaper (f : sx_F) (o : Nat → Int64) (x1 : Int32) (x2 : Int32) (QL : Int32 → sx_F → (Nat → Int64) → Prop) : Prop :=
  P_X6_setPaper f x1 x2 (fun r f1 => ∀ o1 : Nat → Int64, o1 = vp_updL o 0 r.toInt64 → QL 0 f1 o1) (fun E f1 => (E = "java/lang/IllegalArgumentException" ∧ QL 1 f1 o))
def P_L_copy (f : sx_F) (o : Nat → Int64) (x1 : Int32) (QL : Int32 → sx_F → (Nat → Int64) → Prop) : Prop :=
  P_X6_copy f x1 (fun r f1 => ∀ o1 : Nat → Int64, o1 = vp_updL o 0 r.toInt64 → QL 0 f1 o1) (fun E f1 => (E = "java/lang/IndexOutOfBoundsException" ∧ QL 1 f1 o) ∨ (E = "java/lang/IllegalStateException" ∧ QL 2 f1 o))
def P_L_lend (f : sx_F) (o : Nat → Int64) (x1 : Int32) (x2 : Int32) (QL : Int32 → sx_F → (Nat → Int64) → Prop) : Prop :=
  P_X6_lend f x1 x2 (fun r f1 => ∀ o1 : Nat → Int64, o1 = vp_updL o 0 r.toInt64 → QL 0 f1 o1) (fun E f1 => (E = "java/lang/IndexOutOfBoundsException" ∧ QL 1 f1 o) ∨ (E = "java/lang/IllegalStateException" ∧ QL 2 f1 o))
def P_L_giveBack (f : sx_F) (o : Nat → Int64) (x1 : Int32) (QL : Int32 → sx_F → (Nat → Int64) → Prop) : Prop :=
  P_X6_giveBack f x1 (fun r f1 => ∀ o1 : Nat → Int64, o1 = vp_updL o 0 r.toInt64 → QL 0 f1 o1) (fun E f1 => (E = "java/lang/IndexOutOfBoundsException" ∧ QL 1 f1 o) ∨ (E = "java/lang/IllegalStateException" ∧ QL 2 f1 o))
def P_L_paste (f : sx_F) (o : Nat → Int64) (x1 : Int32) (QL : Int32 → sx_F → (Nat → Int64) → Prop) : Prop :=
  P_X6_paste f x1 (fun r f1 => ∀ o1 : Nat → Int64, o1 = vp_updL o 0 r.toInt64 → QL 0 f1 o1) (fun E f1 => (E = "java/lang/IndexOutOfBoundsException" ∧ QL 1 f1 o) ∨ (E = "java/lang/IllegalStateException" ∧ QL 2 f1 o))
def P_L_mark (f : sx_F) (o : Nat → Int64) (x1 : Int32) (x2 : Int32) (x3 : Int32) (QL : Int32 → sx_F → (Nat → Int64) → Prop) : Prop :=
  P_X6_mark f x1 x2 x3 (fun r f1 => ∀ o1 : Nat → Int64, o1 = vp_updL o 0 r.toInt64 → QL 0 f1 o1) (fun E f1 => (E = "java/lang/IndexOutOfBoundsException" ∧ QL 1 f1 o) ∨ (E = "java/lang/IllegalArgumentException" ∧ QL 2 f1 o) ∨ (E = "java/lang/IllegalStateException" ∧ QL 3 f1 o))
def P_L_bow (f : sx_F) (o : Nat → Int64) (x1 : Int32) (x2 : Int32) (x3 : Int32) (x4 : Int32) (QL : Int32 → sx_F → (Nat → Int64) → Prop) : Prop :=
  P_X6_bow f x1 x2 x3 x4 (fun r f1 => ∀ o1 : Nat → Int64, o1 = vp_updL o 0 r.toInt64 → QL 0 f1 o1) (fun E f1 => (E = "java/lang/IndexOutOfBoundsException" ∧ QL 1 f1 o) ∨ (E = "java/lang/IllegalArgumentException" ∧ QL 2 f1 o) ∨ (E = "java/lang/IllegalStateException" ∧ QL 3 f1 o))
def P_L_play (f : sx_F) (o : Nat → Int64) (QL : Int32 → sx_F → (Nat → Int64) → Prop) : Prop :=
  P_X6_play f  (fun r f1 => ∀ o1 : Nat → Int64, o1 = vp_updL o 0 r.toInt64 → QL 0 f1 o1) (fun E f1 => (E = "java/lang/IllegalStateException" ∧ QL 1 f1 o))
def P_L_notes (f : sx_F) (o : Nat → Int64) (x1 : Int32) (x2 : Int32) (QL : Int32 → sx_F → (Nat → Int64) → Prop) : Prop :=
  P_X6_notes f x1 x2 (fun r => ∀ o1 : Nat → Int64, o1 = vp_updL o 0 r.toInt64 → QL 0 f o1) (fun E => (E = "java/lang/IndexOutOfBoundsException" ∧ QL 1 f o))
def P_L_noteAt (f : sx_F) (o : Nat → Int64) (x1 : Int32) (x2 : Int32) (x3 : Int32) (QL : Int32 → sx_F → (Nat → Int64) → Prop) : Prop :=
  P_X6_noteAt f x1 x2 x3 (fun r => ∀ o1 : Nat → Int64, o1 = vp_updL o 0 r.toInt64 → QL 0 f o1) (fun E => (E = "java/lang/IndexOutOfBoundsException" ∧ QL 1 f o))
def P_L_version (f : sx_F) (o : Nat → Int64) (x1 : Int32) (x2 : Int32) (QL : Int32 → sx_F → (Nat → Int64) → Prop) : Prop :=
  P_X6_version f x1 x2 (fun r => ∀ o1 : Nat → Int64, o1 = vp_updL o 0 r.toInt64 → QL 0 f o1) (fun E => (E = "java/lang/IndexOutOfBoundsException" ∧ QL 1 f o))
def P_L_time (f : sx_F) (o : Nat → Int64) (x1 : Int32) (QL : Int32 → sx_F → (Nat → Int64) → Prop) : Prop :=
  P_X6_time f x1 (fun r => ∀ o1 : Nat → Int64, o1 = vp_updL o 0 r.toInt64 → QL 0 f o1) (fun E => (E = "java/lang/IndexOutOfBoundsException" ∧ QL 1 f o))
def P_L_timeByBars (f : sx_F) (o : Nat → Int64) (x1 : Int32) (QL : Int32 → sx_F → (Nat → Int64) → Prop) : Prop :=
  P_X6_timeByBars f x1 (fun r => ∀ o1 : Nat → Int64, o1 = vp_updL o 0 r.toInt64 → QL 0 f o1) (fun E => (E = "java/lang/IndexOutOfBoundsException" ∧ QL 1 f o))
def P_L_items (f : sx_F) (o : Nat → Int64) (x1 : Int32) (QL : Int32 → sx_F → (Nat → Int64) → Prop) : Prop :=
  P_X6_items f x1 (fun r f1 => ∀ o1 : Nat → Int64, o1 = vp_updL o 0 r.toInt64 → QL 0 f1 o1) (fun E f1 => (E = "java/lang/IndexOutOfBoundsException" ∧ QL 1 f1 o))
def P_L_itemOf (f : sx_F) (o : Nat → Int64) (x1 : Int32) (x2 : Int32) (QL : Int32 → sx_F → (Nat → Int64) → Prop) : Prop :=
  P_X6_itemOf f x1 x2 (fun r f1 => ∀ o1 : Nat → Int64, o1 = vp_updL o 0 r.toInt64 → QL 0 f1 o1) (fun E f1 => (E = "java/lang/IndexOutOfBoundsException" ∧ QL 1 f1 o))
def P_L_cue (f : sx_F) (o : Nat → Int64) (x1 : Int32) (x2 : Int32) (QL : Int32 → sx_F → (Nat → Int64) → Prop) : Prop :=
  P_X6_cue f x1 x2 (fun r => ∀ o1 : Nat → Int64, o1 = vp_updL o 0 r.toInt64 → QL 0 f o1) (fun E => (E = "java/lang/IndexOutOfBoundsException" ∧ QL 1 f o))
def P_L_width (f : sx_F) (o : Nat → Int64) (x1 : Int32) (x2 : Int32) (QL : Int32 → sx_F → (Nat → Int64) → Prop) : Prop :=
  P_X6_width f x1 x2 (fun r f1 => ∀ o1 : Nat → Int64, o1 = vp_updL o 0 r.toInt64 → QL 0 f1 o1) (fun E f1 => (E = "java/lang/IndexOutOfBoundsException" ∧ QL 1 f1 o))
def P_L_lines (f : sx_F) (o : Nat → Int64) (x1 : Int32) (QL : Int32 → sx_F → (Nat → Int64) → Prop) : Prop :=
  P_X6_lines f x1 (fun r f1 => ∀ o1 : Nat → Int64, o1 = vp_updL o 0 r.toInt64 → QL 0 f1 o1) (fun E f1 => (E = "java/lang/IndexOutOfBoundsException" ∧ QL 1 f1 o))
def P_L_lineOf (f : sx_F) (o : Nat → Int64) (x1 : Int32) (x2 : Int32) (QL : Int32 → sx_F → (Nat → Int64) → Prop) : Prop :=
  P_X6_lineOf f x1 x2 (fun r f1 => ∀ o1 : Nat → Int64, o1 = vp_updL o 0 r.toInt64 → QL 0 f1 o1) (fun E f1 => (E = "java/lang/IndexOutOfBoundsException" ∧ QL 1 f1 o))
def P_L_cost (f : sx_F) (o : Nat → Int64) (x1 : Int32) (QL : Int32 → sx_F → (Nat → Int64) → Prop) : Prop :=
  P_X6_cost f x1 (fun r f1 => ∀ o1 : Nat → Int64, o1 = vp_updL o 0 r.toInt64 → QL 0 f1 o1) (fun E f1 => (E = "java/lang/IndexOutOfBoundsException" ∧ QL 1 f1 o))
def P_L_costByAll (f : sx_F) (o : Nat → Int64) (x1 : Int32) (QL : Int32 → sx_F → (Nat → Int64) → Prop) : Prop :=
  P_X6_costByAll f x1 (fun r f1 => ∀ o1 : Nat → Int64, o1 = vp_updL o 0 r.toInt64 → QL 0 f1 o1) (fun E f1 => (E = "java/lang/IndexOutOfBoundsException" ∧ QL 1 f1 o))
def P_L_turns (f : sx_F) (o : Nat → Int64) (x1 : Int32) (QL : Int32 → sx_F → (Nat → Int64) → Prop) : Prop :=
  P_X6_turns f x1 (fun r f1 => ∀ o1 : Nat → Int64, o1 = vp_updL o 0 r.toInt64 → QL 0 f1 o1) (fun E f1 => (E = "java/lang/IndexOutOfBoundsException" ∧ QL 1 f1 o))
def P_L_place (f : sx_F) (o : Nat → Int64) (x1 : Int32) (x2 : Int32) (x3 : Int32) (QL : Int32 → sx_F → (Nat → Int64) → Prop) : Prop :=
  P_X6_place f x1 x2 x3 (fun r f1 => ∀ o1 : Nat → Int64, o1 = vp_updL o 0 r.toInt64 → QL 0 f1 o1) (fun E f1 => (E = "java/lang/IndexOutOfBoundsException" ∧ QL 1 f1 o))
def P_L_deskOf (f : sx_F) (o : Nat → Int64) (x1 : Int32) (QL : Int32 → sx_F → (Nat → Int64) → Prop) : Prop :=
  P_X6_deskOf f x1 (fun r => ∀ o1 : Nat → Int64, o1 = vp_updL o 0 r.toInt64 → QL 0 f o1) (fun E => (E = "java/lang/IndexOutOfBoundsException" ∧ QL 1 f o))
def P_L_has (f : sx_F) (o : Nat → Int64) (x1 : Int32) (x2 : Int32) (QL : Int32 → sx_F → (Nat → Int64) → Prop) : Prop :=
  P_X6_has f x1 x2 (fun r => ∀ o1 : Nat → Int64, o1 = vp_updL o 0 r.toInt64 → QL 0 f o1) (fun E => (E = "java/lang/IndexOutOfBoundsException" ∧ QL 1 f o))
def P_L_owed (f : sx_F) (o : Nat → Int64) (x1 : Int32) (QL : Int32 → sx_F → (Nat → Int64) → Prop) : Prop :=
  P_X6_owed f x1 (fun r => ∀ o1 : Nat → Int64, o1 = vp_updL o 0 r.toInt64 → QL 0 f o1) (fun E => (E = "java/lang/IndexOutOfBoundsException" ∧ QL 1 f o))
def P_L_markOf (f : sx_F) (o : Nat → Int64) (x1 : Int32) (x2 : Int32) (x3 : Int32) (QL : Int32 → sx_F → (Nat → Int64) → Prop) : Prop :=
  P_X6_markOf f x1 x2 x3 (fun r => ∀ o1 : Nat → Int64, o1 = vp_updL o 0 r.toInt64 → QL 0 f o1) (fun E => (E = "java/lang/IndexOutOfBoundsException" ∧ QL 1 f o))
def P_L_oldMarks (f : sx_F) (o : Nat → Int64) (x1 : Int32) (QL : Int32 → sx_F → (Nat → Int64) → Prop) : Prop :=
  P_X6_oldMarks f x1 (fun r => ∀ o1 : Nat → Int64, o1 = vp_updL o 0 r.toInt64 → QL 0 f o1) (fun E => (E = "java/lang/IndexOutOfBoundsException" ∧ QL 1 f o))
def P_L_clashes (f : sx_F) (o : Nat → Int64) (x1 : Int32) (QL : Int32 → sx_F → (Nat → Int64) → Prop) : Prop :=
  P_X6_clashes f x1 (fun r => ∀ o1 : Nat → Int64, o1 = vp_updL o 0 r.toInt64 → QL 0 f o1) (fun E => (E = "java/lang/IndexOutOfBoundsException" ∧ QL 1 f o))
def P_case_bar (f g : sx_F) (o : Nat → Int64) (x1 : Int32) (K : sx_F → sx_F → Prop) : Prop :=
  P_L_bar f o x1 (fun k f1 o1 => P_X7_bar g x1 (fun b g1 => P_X7_thrown g1 (fun t => t = k ∧ (k = 0 → o1 0 = b.toInt64) ∧ K f1 g1)))
def P_case_note (f g : sx_F) (o : Nat → Int64) (x1 : Int32) (x2 : Int32) (x3 : Int32) (x4 : Int32) (K : sx_F → sx_F → Prop) : Prop :=
  P_L_note f o x1 x2 x3 x4 (fun k f1 o1 => P_X7_note g x1 x2 x3 x4 (fun b g1 => P_X7_thrown g1 (fun t => t = k ∧ (k = 0 → o1 0 = b.toInt64) ∧ K f1 g1)))
def P_case_mend (f g : sx_F) (o : Nat → Int64) (x1 : Int32) (x2 : Int32) (x3 : Int32) (x4 : Int32) (K : sx_F → sx_F → Prop) : Prop :=
  P_L_mend f o x1 x2 x3 x4 (fun k f1 o1 => P_X7_mend g x1 x2 x3 x4 (fun b g1 => P_X7_thrown g1 (fun t => t = k ∧ (k = 0 → o1 0 = b.toInt64) ∧ K f1 g1)))
def P_case_empty (f g : sx_F) (o : Nat → Int64) (x1 : Int32) (x2 : Int32) (K : sx_F → sx_F → Prop) : Prop :=
  P_L_empty f o x1 x2 (fun k f1 o1 => P_X7_empty g x1 x2 (fun b g1 => P_X7_thrown g1 (fun t => t = k ∧ (k = 0 → o1 0 = b.toInt64) ∧ K f1 g1)))
def P_case_setPaper (f g : sx_F) (o : Nat → Int64) (x1 : Int32) (x2 : Int32) (K : sx_F → sx_F → Prop) : Prop :=
  P_L_setPaper f o x1 x2 (fun k f1 o1 => P_X7_setPaper g x1 x2 (fun b g1 => P_X7_thrown g1 (fun t => t = k ∧ (k = 0 → o1 0 = b.toInt64) ∧ K f1 g1)))
def P_case_copy (f g : sx_F) (o : Nat → Int64) (x1 : Int32) (K : sx_F → sx_F → Prop) : Prop :=
  P_L_copy f o x1 (fun k f1 o1 => P_X7_copy g x1 (fun b g1 => P_X7_thrown g1 (fun t => t = k ∧ (k = 0 → o1 0 = b.toInt64) ∧ K f1 g1)))
def P_case_lend (f g : sx_F) (o : Nat → Int64) (x1 : Int32) (x2 : Int32) (K : sx_F → sx_F → Prop) : Prop :=
  P_L_lend f o x1 x2 (fun k f1 o1 => P_X7_lend g x1 x2 (fun b g1 => P_X7_thrown g1 (fun t => t = k ∧ (k = 0 → o1 0 = b.toInt64) ∧ K f1 g1)))
def P_case_giveBack (f g : sx_F) (o : Nat → Int64) (x1 : Int32) (K : sx_F → sx_F → Prop) : Prop :=
  P_L_giveBack f o x1 (fun k f1 o1 => P_X7_giveBack g x1 (fun b g1 => P_X7_thrown g1 (fun t => t = k ∧ (k = 0 → o1 0 = b.toInt64) ∧ K f1 g1)))
def P_case_paste (f g : sx_F) (o : Nat → Int64) (x1 : Int32) (K : sx_F → sx_F → Prop) : Prop :=
  P_L_paste f o x1 (fun k f1 o1 => P_X7_paste g x1 (fun b g1 => P_X7_thrown g1 (fun t => t = k ∧ (k = 0 → o1 0 = b.toInt64) ∧ K f1 g1)))
def P_case_mark (f g : sx_F) (o : Nat → Int64) (x1 : Int32) (x2 : Int32) (x3 : Int32) (K : sx_F → sx_F → Prop) : Prop :=
  P_L_mark f o x1 x2 x3 (fun k f1 o1 => P_X7_mark g x1 x2 x3 (fun b g1 => P_X7_thrown g1 (fun t => t = k ∧ (k = 0 → o1 0 = b.toInt64) ∧ K f1 g1)))
def P_case_bow (f g : sx_F) (o : Nat → Int64) (x1 : Int32) (x2 : Int32) (x3 : Int32) (x4 : Int32) (K : sx_F → sx_F → Prop) : Prop :=
  P_L_bow f o x1 x2 x3 x4 (fun k f1 o1 => P_X7_bow g x1 x2 x3 x4 (fun b g1 => P_X7_thrown g1 (fun t => t = k ∧ (k = 0 → o1 0 = b.toInt64) ∧ K f1 g1)))
def P_case_play (f g : sx_F) (o : Nat → Int64) (K : sx_F → sx_F → Prop) : Prop :=
  P_L_play f o (fun k f1 o1 => P_X7_play g (fun b g1 => P_X7_thrown g1 (fun t => t = k ∧ (k = 0 → o1 0 = b.toInt64) ∧ K f1 g1)))
def P_case_bars (f g : sx_F) (K : sx_F → sx_F → Prop) : Prop :=
  P_X6_bars f (fun r => P_X7_bars g (fun b g1 => r = b ∧ K f g1))
def P_case_notes (f g : sx_F) (o : Nat → Int64) (x1 : Int32) (x2 : Int32) (K : sx_F → sx_F → Prop) : Prop :=
  P_L_notes f o x1 x2 (fun k f1 o1 => P_X7_notes g x1 x2 (fun b g1 => P_X7_thrown g1 (fun t => t = k ∧ (k = 0 → o1 0 = b.toInt64) ∧ K f1 g1)))
def P_case_noteAt (f g : sx_F) (o : Nat → Int64) (x1 : Int32) (x2 : Int32) (x3 : Int32) (K : sx_F → sx_F → Prop) : Prop :=
  P_L_noteAt f o x1 x2 x3 (fun k f1 o1 => P_X7_noteAt g x1 x2 x3 (fun b g1 => P_X7_thrown g1 (fun t => t = k ∧ (k = 0 → o1 0 = b.toInt64) ∧ K f1 g1)))
def P_case_version (f g : sx_F) (o : Nat → Int64) (x1 : Int32) (x2 : Int32) (K : sx_F → sx_F → Prop) : Prop :=
  P_L_version f o x1 x2 (fun k f1 o1 => P_X7_version g x1 x2 (fun b g1 => P_X7_thrown g1 (fun t => t = k ∧ (k = 0 → o1 0 = b.toInt64) ∧ K f1 g1)))
def P_case_time (f g : sx_F) (o : Nat → Int64) (x1 : Int32) (K : sx_F → sx_F → Prop) : Prop :=
  P_L_time f o x1 (fun k f1 o1 => P_X7_time g x1 (fun b g1 => P_X7_thrown g1 (fun t => t = k ∧ (k = 0 → o1 0 = b.toInt64) ∧ K f1 g1)))
def P_case_timeByBars (f g : sx_F) (o : Nat → Int64) (x1 : Int32) (K : sx_F → sx_F → Prop) : Prop :=
  P_L_timeByBars f o x1 (fun k f1 o1 => P_X7_timeByBars g x1 (fun b g1 => P_X7_thrown g1 (fun t => t = k ∧ (k = 0 → o1 0 = b.toInt64) ∧ K f1 g1)))
def P_case_items (f g : sx_F) (o : Nat → Int64) (x1 : Int32) (K : sx_F → sx_F → Prop) : Prop :=
  P_L_items f o x1 (fun k f1 o1 => P_X7_items g x1 (fun b g1 => P_X7_thrown g1 (fun t => t = k ∧ (k = 0 → o1 0 = b.toInt64) ∧ K f1 g1)))
def P_case_itemOf (f g : sx_F) (o : Nat → Int64) (x1 : Int32) (x2 : Int32) (K : sx_F → sx_F → Prop) : Prop :=
  P_L_itemOf f o x1 x2 (fun k f1 o1 => P_X7_itemOf g x1 x2 (fun b g1 => P_X7_thrown g1 (fun t => t = k ∧ (k = 0 → o1 0 = b.toInt64) ∧ K f1 g1)))
def P_case_cue (f g : sx_F) (o : Nat → Int64) (x1 : Int32) (x2 : Int32) (K : sx_F → sx_F → Prop) : Prop :=
  P_L_cue f o x1 x2 (fun k f1 o1 => P_X7_cue g x1 x2 (fun b g1 => P_X7_thrown g1 (fun t => t = k ∧ (k = 0 → o1 0 = b.toInt64) ∧ K f1 g1)))
def P_case_width (f g : sx_F) (o : Nat → Int64) (x1 : Int32) (x2 : Int32) (K : sx_F → sx_F → Prop) : Prop :=
  P_L_width f o x1 x2 (fun k f1 o1 => P_X7_width g x1 x2 (fun b g1 => P_X7_thrown g1 (fun t => t = k ∧ (k = 0 → o1 0 = b.toInt64) ∧ K f1 g1)))
def P_case_lines (f g : sx_F) (o : Nat → Int64) (x1 : Int32) (K : sx_F → sx_F → Prop) : Prop :=
  P_L_lines f o x1 (fun k f1 o1 => P_X7_lines g x1 (fun b g1 => P_X7_thrown g1 (fun t => t = k ∧ (k = 0 → o1 0 = b.toInt64) ∧ K f1 g1)))
def P_case_lineOf (f g : sx_F) (o : Nat → Int64) (x1 : Int32) (x2 : Int32) (K : sx_F → sx_F → Prop) : Prop :=
  P_L_lineOf f o x1 x2 (fun k f1 o1 => P_X7_lineOf g x1 x2 (fun b g1 => P_X7_thrown g1 (fun t => t = k ∧ (k = 0 → o1 0 = b.toInt64) ∧ K f1 g1)))
def P_case_cost (f g : sx_F) (o : Nat → Int64) (x1 : Int32) (K : sx_F → sx_F → Prop) : Prop :=
  P_L_cost f o x1 (fun k f1 o1 => P_X7_cost g x1 (fun b g1 => P_X7_thrown g1 (fun t => t = k ∧ (k = 0 → o1 0 = b.toInt64) ∧ K f1 g1)))
def P_case_costByAll (f g : sx_F) (o : Nat → Int64) (x1 : Int32) (K : sx_F → sx_F → Prop) : Prop :=
  P_L_costByAll f o x1 (fun k f1 o1 => P_X7_costByAll g x1 (fun b g1 => P_X7_thrown g1 (fun t => t = k ∧ (k = 0 → o1 0 = b.toInt64) ∧ K f1 g1)))
def P_case_turns (f g : sx_F) (o : Nat → Int64) (x1 : Int32) (K : sx_F → sx_F → Prop) : Prop :=
  P_L_turns f o x1 (fun k f1 o1 => P_X7_turns g x1 (fun b g1 => P_X7_thrown g1 (fun t => t = k ∧ (k = 0 → o1 0 = b.toInt64) ∧ K f1 g1)))
def P_case_place (f g : sx_F) (o : Nat → Int64) (x1 : Int32) (x2 : Int32) (x3 : Int32) (K : sx_F → sx_F → Prop) : Prop :=
  P_L_place f o x1 x2 x3 (fun k f1 o1 => P_X7_place g x1 x2 x3 (fun b g1 => P_X7_thrown g1 (fun t => t = k ∧ (k = 0 → o1 0 = b.toInt64) ∧ K f1 g1)))
def P_case_copies (f g : sx_F) (K : sx_F → sx_F → Prop) : Prop :=
  P_X6_copies f (fun r => P_X7_copies g (fun b g1 => r = b ∧ K f g1))
def P_case_deskOf (f g : sx_F) (o : Nat → Int64) (x1 : Int32) (K : sx_F → sx_F → Prop) : Prop :=
  P_L_deskOf f o x1 (fun k f1 o1 => P_X7_deskOf g x1 (fun b g1 => P_X7_thrown g1 (fun t => t = k ∧ (k = 0 → o1 0 = b.toInt64) ∧ K f1 g1)))
def P_case_has (f g : sx_F) (o : Nat → Int64) (x1 : Int32) (x2 : Int32) (K : sx_F → sx_F → Prop) : Prop :=
  P_L_has f o x1 x2 (fun k f1 o1 => P_X7_has g x1 x2 (fun b g1 => P_X7_thrown g1 (fun t => t = k ∧ (k = 0 → o1 0 = b.toInt64) ∧ K f1 g1)))
def P_case_owed (f g : sx_F) (o : Nat → Int64) (x1 : Int32) (K : sx_F → sx_F → Prop) : Prop :=
  P_L_owed f o x1 (fun k f1 o1 => P_X7_owed g x1 (fun b g1 => P_X7_thrown g1 (fun t => t = k ∧ (k = 0 → o1 0 = b.toInt64) ∧ K f1 g1)))
def P_case_markOf (f g : sx_F) (o : Nat → Int64) (x1 : Int32) (x2 : Int32) (x3 : Int32) (K : sx_F → sx_F → Prop) : Prop :=
  P_L_markOf f o x1 x2 x3 (fun k f1 o1 => P_X7_markOf g x1 x2 x3 (fun b g1 => P_X7_thrown g1 (fun t => t = k ∧ (k = 0 → o1 0 = b.toInt64) ∧ K f1 g1)))
def P_case_oldMarks (f g : sx_F) (o : Nat → Int64) (x1 : Int32) (K : sx_F → sx_F → Prop) : Prop :=
  P_L_oldMarks f o x1 (fun k f1 o1 => P_X7_oldMarks g x1 (fun b g1 => P_X7_thrown g1 (fun t => t = k ∧ (k = 0 → o1 0 = b.toInt64) ∧ K f1 g1)))
def P_case_clashes (f g : sx_F) (o : Nat → Int64) (x1 : Int32) (K : sx_F → sx_F → Prop) : Prop :=
  P_L_clashes f o x1 (fun k f1 o1 => P_X7_clashes g x1 (fun b g1 => P_X7_thrown g1 (fun t => t = k ∧ (k = 0 → o1 0 = b.toInt64) ∧ K f1 g1)))
def P_case_concerts (f g : sx_F) (K : sx_F → sx_F → Prop) : Prop :=
  P_X6_concerts f (fun r => P_X7_concerts g (fun b g1 => r = b ∧ K f g1))
