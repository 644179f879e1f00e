/-! THE BEST WAY TO BREAK. c, n: what a first line of so many items costs in all, and how many lines it makes; ok: it may be a line -/
def z_sc (c n : Nat → Nat) (ok : Nat → Bool) : Nat → Nat × Nat × Nat
  | 0 => (0, 0, 0)
  | k + 1 => if ok (k + 1) = true ∧ ((z_sc c n ok k).2.2 = 0 ∨ c (k + 1) < (z_sc c n ok k).1 ∨ (c (k + 1) = (z_sc c n ok k).1 ∧ n (k + 1) < (z_sc c n ok k).2.1)) then (c (k + 1), n (k + 1), k + 1) else z_sc c n ok k
theorem z_sc_c {c c' n n' : Nat → Nat} {ok : Nat → Bool} : ∀ k, (∀ i, 1 ≤ i → i ≤ k → c i = c' i ∧ n i = n' i) → z_sc c n ok k = z_sc c' n' ok k
  | 0, _ => rfl
  | k + 1, h => by
    have e := z_sc_c (ok := ok) k (fun i h1 h2 => h i h1 (by omega))
    obtain ⟨h1, h2⟩ := h (k + 1) (by omega) (Nat.le_refl _)
    show (if _ then _ else _) = (if _ then _ else _)
    rw [e, h1, h2]
/-- one item is always a line: from one on there is a way; it is one of those tried, and none that may be is cheaper -/
theorem z_sc_way {c n : Nat → Nat} {ok : Nat → Bool} (h1 : ok 1 = true) : ∀ k, 1 ≤ k → 1 ≤ (z_sc c n ok k).2.2 ∧ (z_sc c n ok k).2.2 ≤ k ∧ ok (z_sc c n ok k).2.2 = true ∧ (z_sc c n ok k).1 = c (z_sc c n ok k).2.2 ∧ (z_sc c n ok k).2.1 = n (z_sc c n ok k).2.2 ∧ ∀ i, 1 ≤ i → i ≤ k → ok i = true → (z_sc c n ok k).1 ≤ c i
  | 0, h => absurd h (by omega)
  | k + 1, _ => by
    have e : z_sc c n ok (k + 1) = if ok (k + 1) = true ∧ ((z_sc c n ok k).2.2 = 0 ∨ c (k + 1) < (z_sc c n ok k).1 ∨ (c (k + 1) = (z_sc c n ok k).1 ∧ n (k + 1) < (z_sc c n ok k).2.1)) then (c (k + 1), n (k + 1), k + 1) else z_sc c n ok k := rfl
    by_cases k0 : k = 0
    · subst k0
      rw [e, if_pos ⟨h1, Or.inl rfl⟩]
      exact ⟨Nat.le_refl _, Nat.le_refl _, h1, rfl, rfl, fun i a b _ => by rw [show i = 1 by omega]; exact Nat.le_refl _⟩
    · obtain ⟨p1, p2, p3, p4, p5, p6⟩ := z_sc_way (c := c) (n := n) h1 k (by omega)
      by_cases cnd : ok (k + 1) = true ∧ ((z_sc c n ok k).2.2 = 0 ∨ c (k + 1) < (z_sc c n ok k).1 ∨ (c (k + 1) = (z_sc c n ok k).1 ∧ n (k + 1) < (z_sc c n ok k).2.1))
      · rw [e, if_pos cnd]
        refine ⟨by omega, Nat.le_refl _, cnd.1, rfl, rfl, fun i a b o => ?_⟩
        by_cases ei : i = k + 1
        · rw [ei]; exact Nat.le_refl _
        · have := p6 i a (by omega) o
          rcases cnd.2 with z | z | z
          · omega
          · show c (k + 1) ≤ c i; omega
          · show c (k + 1) ≤ c i; omega
      · rw [e, if_neg cnd]
        refine ⟨p1, by omega, p3, p4, p5, fun i a b o => ?_⟩
        by_cases ei : i = k + 1
        · rw [ei] at o ⊢
          exact Nat.le_of_not_lt (fun z => cnd ⟨o, Or.inr (Or.inl z)⟩)
        · exact p6 i a (by omega) o
/-- nothing more is tried where no more may be a line -/
theorem z_sc_stop {c n : Nat → Nat} {ok : Nat → Bool} {k : Nat} : ∀ m, k ≤ m → (∀ i, k < i → i ≤ m → ok i = false) → z_sc c n ok m = z_sc c n ok k
  | 0, h, _ => by rw [show k = 0 by omega]
  | m + 1, h, h2 => by
    by_cases e : k = m + 1
    · rw [e]
    · show (if ok (m + 1) = true ∧ ((z_sc c n ok m).2.2 = 0 ∨ c (m + 1) < (z_sc c n ok m).1 ∨ (c (m + 1) = (z_sc c n ok m).1 ∧ n (m + 1) < (z_sc c n ok m).2.1)) then (c (m + 1), n (m + 1), m + 1) else z_sc c n ok m) = _
      rw [if_neg (fun z => by rw [h2 (m + 1) (by omega) (Nat.le_refl _)] at z; exact absurd z.1 (by decide))]
      exact z_sc_stop m (by omega) (fun i a b => h2 i a (by omega))
def z_wid (W : Nat → Nat) (a e : Nat) : Nat := 8 * (e - a) + (z_sm W e - z_sm W a)
def z_bad (w wd : Nat) (last : Bool) : Nat := if w < wd then 4 * ((wd - w) * (wd - w)) else if last then 0 else (w - wd) * (w - wd)
def z_nl (q l : Nat) : Nat := if l + 1 < q then l + 1 else 0
def z_lc (I : Nat) (W T : Nat → Nat) (w q a l k : Nat) : Nat := z_bad w (z_wid W a (a + k)) (decide (a + k = I)) + (if l + 1 < q then 0 else T (a + k))
def z_ok (L : Nat → Nat) (w a k : Nat) : Bool := decide (k = 1 ∨ z_wid L a (a + k) ≤ w)
/-- the table, from the end on: d items done -/
def z_dp (I : Nat) (W L T : Nat → Nat) (w q : Nat) : Nat → Nat → Nat → Nat × Nat × Nat
  | 0 => fun _ _ => (0, 0, 0)
  | d + 1 => fun a l => if a + (d + 1) = I then z_sc (fun k => z_lc I W T w q a l k + (z_dp I W L T w q d (a + k) (z_nl q l)).1) (fun k => 1 + (z_dp I W L T w q d (a + k) (z_nl q l)).2.1) (z_ok L w a) (d + 1) else z_dp I W L T w q d a l
theorem z_dp_up {I : Nat} {W L T : Nat → Nat} {w q a l : Nat} : ∀ m d, d ≤ m → I ≤ a + d → z_dp I W L T w q m a l = z_dp I W L T w q d a l
  | 0, d, h, _ => by rw [show d = 0 by omega]
  | m + 1, d, h, h2 => by
    by_cases e : d = m + 1
    · rw [e]
    · show (if a + (m + 1) = I then z_sc (fun k => z_lc I W T w q a l k + (z_dp I W L T w q m (a + k) (z_nl q l)).1) (fun k => 1 + (z_dp I W L T w q m (a + k) (z_nl q l)).2.1) (z_ok L w a) (m + 1) else z_dp I W L T w q m a l) = _
      rw [if_neg (by omega)]
      exact z_dp_up m d (by omega) h2
/-- the whole table -/
def z_Z (I : Nat) (W L T : Nat → Nat) (w q : Nat) : Nat → Nat → Nat × Nat × Nat := z_dp I W L T w q I
theorem z_Z_end {I : Nat} {W L T : Nat → Nat} {w q l : Nat} : z_Z I W L T w q I l = (0, 0, 0) := z_dp_up I 0 (Nat.zero_le _) (by omega)
theorem z_Z_eq {I : Nat} {W L T : Nat → Nat} {w q a l : Nat} (h : a < I) : z_Z I W L T w q a l = z_sc (fun k => z_lc I W T w q a l k + (z_Z I W L T w q (a + k) (z_nl q l)).1) (fun k => 1 + (z_Z I W L T w q (a + k) (z_nl q l)).2.1) (z_ok L w a) (I - a) := by
  have e1 : z_Z I W L T w q a l = z_dp I W L T w q (I - a) a l := z_dp_up I (I - a) (by omega) (by omega)
  rw [e1]
  obtain ⟨d, hd⟩ : ∃ d, I - a = d + 1 := ⟨I - a - 1, by omega⟩
  rw [hd]
  show (if a + (d + 1) = I then z_sc (fun k => z_lc I W T w q a l k + (z_dp I W L T w q d (a + k) (z_nl q l)).1) (fun k => 1 + (z_dp I W L T w q d (a + k) (z_nl q l)).2.1) (z_ok L w a) (d + 1) else z_dp I W L T w q d a l) = _
  rw [if_pos (by omega)]
  refine z_sc_c (d + 1) (fun i h1 h2 => ?_)
  have e2 : z_Z I W L T w q (a + i) (z_nl q l) = z_dp I W L T w q d (a + i) (z_nl q l) := z_dp_up I d (by omega) (by omega)
  rw [e2]
  exact ⟨rfl, rfl⟩
theorem z_wid_le {W : Nat → Nat} {c I a : Nat} (h : ∀ j, j < I → W j ≤ c) : ∀ e, a ≤ e → e ≤ I → z_wid W a e ≤ (8 + c) * (e - a)
  | 0, h1, _ => by
    rw [show a = 0 by omega]
    exact Nat.zero_le _
  | e + 1, h1, h2 => by
    by_cases c1 : a = e + 1
    · rw [c1]; unfold z_wid; omega
    · have i := z_wid_le (c := c) (I := I) (a := a) h e (by omega) (by omega)
      have m := z_sm_mono (w := W) (show a ≤ e by omega)
      have hj := h e (by omega)
      have s : z_sm W (e + 1) = z_sm W e + W e := rfl
      unfold z_wid at i ⊢
      rw [s, show e + 1 - a = (e - a) + 1 by omega, Nat.mul_succ (8 + c)]
      omega
theorem z_wid_1 {W : Nat → Nat} {a : Nat} : z_wid W a (a + 1) = 8 + W a := by
  unfold z_wid
  rw [show z_sm W (a + 1) = z_sm W a + W a from rfl]
  omega
/-- the sums of leasts grow: what is no line with so many items is none with more -/
theorem z_wid_lt {W : Nat → Nat} {a e : Nat} (h : a ≤ e) : z_wid W a e < z_wid W a (e + 1) := by
  unfold z_wid
  have m := z_sm_mono (w := W) h
  rw [show z_sm W (e + 1) = z_sm W e + W e from rfl]
  omega
theorem z_bad_le {w wd c : Nat} {l : Bool} (hw : w ≤ 500) (h : wd ≤ c) (hc : 500 ≤ c) : z_bad w wd l ≤ 4 * (c * c) := by
  unfold z_bad
  have sq : ∀ x y : Nat, x ≤ y → x * x ≤ y * y := fun x y h => Nat.mul_le_mul h h
  split
  · have := sq (wd - w) c (by omega); omega
  · split
    · omega
    · have := sq (w - wd) c (by omega); omega
theorem z_ok1 {L : Nat → Nat} {w a : Nat} : z_ok L w a 1 = true := decide_eq_true (Or.inl rfl)
/-- what the best way costs, and how many lines it has -/
theorem z_Z_le {I : Nat} {W L T : Nat → Nat} {w q : Nat} (hw : w ≤ 500) (hI : I ≤ 12) (hW : ∀ j, j < I → W j ≤ 768) (hT : ∀ j, T j ≤ 1600) : ∀ d a l, a + d = I → (z_Z I W L T w q a l).1 ≤ 3000000 * d ∧ (z_Z I W L T w q a l).2.1 ≤ d ∧ (0 < d → 1 ≤ (z_Z I W L T w q a l).2.1) := by
  intro d
  induction d using Nat.strongRecOn with
  | ind d ih =>
  intro a l h
  by_cases d0 : d = 0
  · rw [show a = I by omega, z_Z_end]
    exact ⟨Nat.zero_le _, Nat.zero_le _, fun z => by omega⟩
  · rw [z_Z_eq (by omega)]
    obtain ⟨p1, p2, p3, p4, p5, p6⟩ := z_sc_way (c := fun k => z_lc I W T w q a l k + (z_Z I W L T w q (a + k) (z_nl q l)).1) (n := fun k => 1 + (z_Z I W L T w q (a + k) (z_nl q l)).2.1) (ok := z_ok L w a) z_ok1 (I - a) (by omega)
    have one := p6 1 (Nat.le_refl _) (by omega) z_ok1
    obtain ⟨i1, -, -⟩ := ih (d - 1) (by omega) (a + 1) (z_nl q l) (by omega)
    generalize hk : (z_sc (fun k => z_lc I W T w q a l k + (z_Z I W L T w q (a + k) (z_nl q l)).1) (fun k => 1 + (z_Z I W L T w q (a + k) (z_nl q l)).2.1) (z_ok L w a) (I - a)).2.2 = k at p1 p2 p3 p4 p5
    obtain ⟨-, j2, -⟩ := ih (d - k) (by omega) (a + k) (z_nl q l) (by omega)
    have hWa := hW a (by omega)
    have hTa := hT (a + 1)
    have lc : z_lc I W T w q a l 1 ≤ 4 * (776 * 776) + 1600 := by
      unfold z_lc
      rw [z_wid_1]
      have := z_bad_le (w := w) (wd := 8 + W a) (c := 776) (l := decide (a + 1 = I)) hw (by omega) (by omega)
      split <;> omega
    refine ⟨?_, ?_, fun _ => ?_⟩
    · refine Nat.le_trans one ?_
      show z_lc I W T w q a l 1 + (z_Z I W L T w q (a + 1) (z_nl q l)).1 ≤ 3000000 * d
      omega
    · rw [p5]; omega
    · rw [p5]; omega
/-- every way that is tried costs less than what the class holds for none -/
theorem z_lc_le {I : Nat} {W T : Nat → Nat} {w q a l k : Nat} (hw : w ≤ 500) (hI : I ≤ 12) (hW : ∀ j, j < I → W j ≤ 768) (hT : ∀ j, T j ≤ 1600) (hk : a + k ≤ I) : z_lc I W T w q a l k ≤ 400000000 := by
  unfold z_lc
  have h1 := z_wid_le (a := a) hW (a + k) (by omega) hk
  have h2 : z_wid W a (a + k) ≤ 9312 := by
    rw [show a + k - a = k by omega] at h1
    omega
  have := z_bad_le (w := w) (l := decide (a + k = I)) hw h2 (by omega)
  have := hT (a + k)
  split <;> omega
