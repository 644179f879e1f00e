/-! THE SPRINGS OF A BAR -/
def z_bgk (S : z_S) (s at_ : Nat) : Nat → Nat
  | 0 => 0
  | k + 1 => if z_fl S s k = at_ then (if S 4 (8 * s + k) = 0 then 1 else 2) else z_bgk S s at_ k
def z_bg (S : z_S) (s len at_ : Nat) : Nat := if z_bgk S s at_ (S 2 s) = 0 then (if z_fl S s (S 2 s) = at_ ∧ at_ < len then 1 else 0) else z_bgk S s at_ (S 2 s)
theorem z_bgk_0 {S : z_S} {s p : Nat} : ∀ k, (∀ j, j < k → z_fl S s j ≠ p) → z_bgk S s p k = 0
  | 0, _ => rfl
  | k + 1, h => by
    show (if z_fl S s k = p then (if S 4 (8 * s + k) = 0 then 1 else 2) else z_bgk S s p k) = 0
    rw [if_neg (h k (by omega))]
    exact z_bgk_0 k (fun j hj => h j (by omega))
theorem z_bgk_le {S : z_S} {s p : Nat} : ∀ k, z_bgk S s p k ≤ 2
  | 0 => Nat.zero_le _
  | k + 1 => by
    have := z_bgk_le (S := S) (s := s) (p := p) k
    show (if z_fl S s k = p then (if S 4 (8 * s + k) = 0 then 1 else 2) else z_bgk S s p k) ≤ 2
    split
    · split <;> omega
    · exact this
theorem z_bg_le {S : z_S} {s len p : Nat} : z_bg S s len p ≤ 2 := by
  unfold z_bg
  split
  · split <;> omega
  · exact z_bgk_le _
/-- the notes of a slot stand one behind the other -/
theorem z_fl_lt {S : z_S} (W : z_W S) {s : Nat} (hs : s < 60) : ∀ {a b : Nat}, a < b → b ≤ S 2 s → z_fl S s a < z_fl S s b := by
  intro a b h
  induction b with
  | zero => omega
  | succ b ih =>
    intro hb
    have h1 := W.2.2.2.2.1 s b hs (by omega)
    have e : z_fl S s (b + 1) = z_fl S s b + S 3 (8 * s + b) := rfl
    by_cases c : a = b
    · rw [c, e]; omega
    · have := ih (by omega) (by omega)
      omega
def z_ap (v : Int32) (q : Nat) : Int32 := if q = 0 then v else if v = -1 then (if q = 2 then 1 else 0) else (if q = 2 then v + 1 else v)
theorem z_ap0 (v : Int32) : z_ap v 0 = v := rfl
theorem x_addPlace {f : sx_F} {p : Nat} {q : Bool} {Q : sx_F → Prop} (hp : p < 32) (h : ∀ f' : sx_F, (∀ k, k ≠ 13 → f' k = f k) → (∀ x, x ≠ p → f' 13 x = f 13 x) → f' 13 p = z_ap (f 13 p) (if q then 2 else 1) → Q f') : P_X5_addPlace f (nI p) (z_b q) Q := by
  intro B17 h17
  rw [nI_clamp (by omega)] at h17 ⊢
  have vi : vp_in (nI p) 32 := vp_in_nI (by omega) (by omega)
  have two : ∀ g : sx_F, (∀ k, k ≠ 13 → g k = f k) → (∀ x, x ≠ p → g 13 x = f 13 x) → g 13 p = z_ap (f 13 p) 1 → B17 g := by
    intro g g1 g2 g3
    refine h17 g ?_
    cases q
    · exact ⟨fun _ => h g g1 g2 g3, fun c => absurd rfl c⟩
    · refine ⟨fun c => absurd c (by decide), fun _ => ⟨vi, vi, nm_e (h _ (fun k hk => by rw [sx_u_n hk]; exact g1 k hk) (fun x hx => by rw [sx_u_s, pk_un hx]; exact g2 x hx) ?_)⟩⟩
      rw [sx_u_s, pk_us, g3]
      unfold z_ap
      by_cases c : f 13 p = -1
      · rw [if_neg (by decide), if_pos c, if_neg (by decide), if_pos rfl, if_neg (by decide), if_pos c, if_pos rfl]; rfl
      · rw [if_neg (by decide), if_neg c, if_neg (by decide), if_pos rfl, if_neg (by decide), if_neg c, if_pos rfl]
  refine ⟨vi, fun c => ⟨vi, nm_e (two _ (fun k hk => sx_u_n hk) (fun x hx => by rw [sx_u_s, pk_un hx]) ?_)⟩, fun c => two f (fun _ _ => rfl) (fun _ _ => rfl) ?_⟩
  · rw [sx_u_s, pk_us]
    unfold z_ap
    rw [if_neg (by decide), if_pos c, if_neg (by decide)]
  · unfold z_ap
    rw [if_neg (by decide), if_neg c, if_neg (by decide)]
theorem x_addPlaces {f : sx_F} {S : z_S} {s len : Nat} {Q : sx_F → Prop} (Z : z_X f S) (W : z_W S) (hs : s < 60) (hl : len ≤ 32) (hf : z_fl S s (S 2 s) ≤ len) (h : ∀ f' : sx_F, (∀ k, k ≠ 13 → f' k = f k) → (∀ p, p < len → f' 13 p = z_ap (f 13 p) (z_bg S s len p)) → Q f') : P_X5_addPlaces f (nI s) (nI len) Q := by
  intro B6 B41 B62 h6 h41 h62
  have hc := W.2.2.1 s hs
  have key : ∀ f' : sx_F, (∀ k, k ≠ 13 → f' k = f k) → (∀ p, f' 13 p = z_ap (f 13 p) (z_bgk S s p 0)) → B6 f' (nI (z_fl S s 0)) (nI 0) := by
    refine z_up (B := fun k => ∀ f' : sx_F, (∀ k, k ≠ 13 → f' k = f k) → (∀ p, f' 13 p = z_ap (f 13 p) (z_bgk S s p k)) → B6 f' (nI (z_fl S s k)) (nI k)) (S 2 s) (fun k hk ih => ?_)
    intro f' f1 f2
    have Z' : z_X f' S := z_Xc Z (f1 1 (by decide)) (f1 2 (by decide)) (f1 5 (by decide)) (f1 6 (by decide)) (f1 7 (by decide))
    have hle := z_fl_le (S := S) s hk
    refine h6 _ _ _ ⟨vp_in_nI (by omega) (by omega), ?_⟩
    rw [nI_clamp (by omega), Z'.2.2.1 s hs]
    refine pk_le (S 2 s) k (fun c => ?_) (fun c => ?_)
    · have e : k = S 2 s := by omega
      subst e
      refine h62 _ _ (pk_le len (z_fl S s (S 2 s)) (fun c1 => h f' f1 (fun p hp => ?_)) (fun c1 => x_addPlace (q := false) (by omega) (fun f2' g1 g2 g3 => h f2' (fun k hk => by rw [g1 k hk]; exact f1 k hk) (fun p hp => ?_))))
      · rw [f2 p]
        unfold z_bg
        rw [if_neg (show ¬ (z_fl S s (S 2 s) = p ∧ p < len) by omega)]
        split
        · rename_i e; rw [e]
        · rfl
      · by_cases e : p = z_fl S s (S 2 s)
        · have z0 : z_bgk S s p (S 2 s) = 0 := z_bgk_0 _ (fun j hj => by have := z_fl_lt W hs hj (Nat.le_refl _); omega)
          rw [e, g3, f2, ← e, z0]
          unfold z_bg
          rw [if_pos z0, if_pos (show z_fl S s (S 2 s) = p ∧ p < len from ⟨e.symm, hp⟩)]
          rfl
        · rw [g2 p e, f2 p]
          unfold z_bg
          rw [if_neg (show ¬ (z_fl S s (S 2 s) = p ∧ p < len) by omega)]
          split
          · rename_i e; rw [e]
          · rfl
    · have lt := z_fl_lt W hs c (Nat.le_refl _)
      have st : ∀ q : Bool, (q = decide (¬ S 4 (8 * s + k) = 0)) → B41 f' (nI (z_fl S s k)) (nI k) (nI (z_fl S s k)) (z_b q) := by
        intro q hq
        refine h41 _ _ _ _ _ (x_addPlace (by omega) (fun f2' g1 g2 g3 => ?_))
        have Z2 : z_X f2' S := z_Xc Z' (g1 1 (by decide)) (g1 2 (by decide)) (g1 5 (by decide)) (g1 6 (by decide)) (g1 7 (by decide))
        refine x_lengthAt Z2 hs (by omega) (nm_e (nm_e ?_))
        rw [nI_add, nI_1]
        refine ih c f2' (fun k hk => by rw [g1 k hk]; exact f1 k hk) (fun p => ?_)
        show f2' 13 p = z_ap (f 13 p) (if z_fl S s k = p then (if S 4 (8 * s + k) = 0 then 1 else 2) else z_bgk S s p k)
        by_cases e : z_fl S s k = p
        · have z0 : z_bgk S s p k = 0 := z_bgk_0 _ (fun j hj => by have := z_fl_lt W hs hj (Nat.le_of_lt c); omega)
          rw [if_pos e, ← e, g3, f2, e, z0, hq]
          by_cases z : S 4 (8 * s + k) = 0
          · rw [if_pos z, decide_eq_false (fun y => y z)]; rfl
          · rw [if_neg z, decide_eq_true z]; rfl
        · rw [if_neg e, g2 p (fun z => e z.symm), f2 p]
      refine pk_le len (z_fl S s k) (fun c1 => absurd c1 (by omega)) (fun _ => x_pitchAt Z' hs (by omega) ?_)
      have hp60 := (W.2.2.2.1 (8 * s + k) (by omega)).2
      refine pk_le (S 4 (8 * s + k)) 0 (fun z => ?_) (fun z => ?_)
      · exact st false (by rw [decide_eq_false (by omega)])
      · exact st true (by rw [decide_eq_true (by omega)])
  exact key f (fun _ _ => rfl) (fun p => (z_ap0 _).symm)
