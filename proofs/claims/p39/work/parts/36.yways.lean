/-! WAYS TO BREAK A BOOK: as rows of how many items their lines have -/
def y_l (e : Nat → Bool) (I : Nat) : Nat → Nat → List Nat
  | 0, _ => []
  | d + 1, m => if d = 0 ∨ e (I - (d + 1)) = true then (m + 1) :: y_l e I d 0 else y_l e I d (m + 1)
def y_lb (I : Nat) (W : Nat → Nat) (w : Nat) : Nat → List Nat → Nat
  | _, [] => 0
  | p, k :: ks => z_bad w (z_wid W p (p + k)) (decide (p + k = I)) + y_lb I W w (p + k) ks
def y_lt (T : Nat → Nat) (q : Nat) : Nat → Nat → List Nat → Nat
  | _, _, [] => 0
  | p, l, k :: ks => (if l + 1 < q then 0 else T (p + k)) + y_lt T q (p + k) (z_nl q l) ks
def y_lk (L : Nat → Nat) (w : Nat) : Nat → List Nat → Bool
  | _, [] => true
  | p, k :: ks => z_ok L w p k && y_lk L w (p + k) ks
def y_lr : Nat → List Nat → Nat
  | r, [] => r
  | r, k :: ks => y_lr (7 * r + k) ks
def y_sum : List Nat → Nat
  | [] => 0
  | k :: ks => k + y_sum ks
def y_pos : List Nat → Prop
  | [] => True
  | k :: ks => 1 ≤ k ∧ y_pos ks
/-- the best way's row -/
def y_pa (I : Nat) (Z : Nat → Nat → Nat × Nat × Nat) (q : Nat) : Nat → Nat → List Nat → Prop
  | p, _, [] => p = I
  | p, l, k :: ks => p < I ∧ k = (Z p l).2.2 ∧ y_pa I Z q (p + k) (z_nl q l) ks
def y_lx : List Nat → List Nat → Prop
  | p :: ps, k :: ks => p < k ∨ (p = k ∧ y_lx ps ks)
  | _, _ => False
theorem y_l_s {e : Nat → Bool} {I d m : Nat} : y_l e I (d + 1) m = if d = 0 ∨ e (I - (d + 1)) = true then (m + 1) :: y_l e I d 0 else y_l e I d (m + 1) := rfl
theorem y_l_c {e e' : Nat → Bool} {I : Nat} : ∀ d m, (∀ i, I - d ≤ i → e i = e' i) → d ≤ I → y_l e I d m = y_l e' I d m
  | 0, _, _, _ => rfl
  | d + 1, m, h, hd => by
    rw [y_l_s, y_l_s, h (I - (d + 1)) (Nat.le_refl _), y_l_c d 0 (fun i hi => h i (by omega)) (by omega), y_l_c d (m + 1) (fun i hi => h i (by omega)) (by omega)]
theorem y_l_sum {e : Nat → Bool} {I : Nat} : ∀ d m, (d = 0 → m = 0) → y_sum (y_l e I d m) = d + m ∧ y_pos (y_l e I d m)
  | 0, m, h => ⟨by rw [h rfl]; rfl, trivial⟩
  | d + 1, m, _ => by
    rw [y_l_s]
    by_cases c : d = 0 ∨ e (I - (d + 1)) = true
    · rw [if_pos c]
      have ih := y_l_sum (e := e) (I := I) d 0 (fun _ => rfl)
      exact ⟨by show m + 1 + y_sum (y_l e I d 0) = _; rw [ih.1]; omega, by show 1 ≤ m + 1 ∧ _; exact ⟨by omega, ih.2⟩⟩
    · rw [if_neg c]
      have ih := y_l_sum (e := e) (I := I) d (m + 1) (fun z => absurd (Or.inl z) c)
      exact ⟨by rw [ih.1]; omega, ih.2⟩
/-- every row is a way's -/
theorem y_l_ex {I : Nat} : ∀ d, d ≤ I → ∀ m k ks, m < k → k + y_sum ks = d + m → y_pos ks → 0 < d → ∃ e : Nat → Bool, y_l e I d m = k :: ks
  | 0, _, _, _, _, _, _, _, h => absurd h (by omega)
  | d + 1, hd, m, k, ks, hk, hs, hp, _ => by
    by_cases c : k = m + 1
    · by_cases d0 : d = 0
      · have k0 : ks = [] := by
          cases ks with
          | nil => rfl
          | cons k2 ks2 =>
            have h1 : 1 ≤ k2 := hp.1
            have h2 : k + (k2 + y_sum ks2) = d + 1 + m := hs
            omega
        refine ⟨fun _ => true, ?_⟩
        rw [y_l_s, if_pos (Or.inl d0), d0, c, k0]; rfl
      · cases ks with
        | nil =>
          have h2 : k + 0 = d + 1 + m := hs
          omega
        | cons k2 ks2 =>
          have h2 : k + (k2 + y_sum ks2) = d + 1 + m := hs
          obtain ⟨e, he⟩ := y_l_ex (I := I) d (by omega) 0 k2 ks2 hp.1 (by omega) hp.2 (by omega)
          refine ⟨fun x => if x = I - (d + 1) then true else e x, ?_⟩
          rw [y_l_s, if_pos (Or.inr (if_pos rfl)), c, ← he]
          congr 1
          exact y_l_c (I := I) d 0 (fun i hi => if_neg (by omega)) (by omega)
    · have d0 : d ≠ 0 := by
        intro z
        omega
      obtain ⟨e, he⟩ := y_l_ex (I := I) d (by omega) (m + 1) k ks (by omega) (by omega) hp (by omega)
      refine ⟨fun x => if x = I - (d + 1) then false else e x, ?_⟩
      rw [y_l_s, if_neg (fun z => z.elim d0 (fun z => by rw [if_pos rfl] at z; exact absurd z (by decide))), ← he]
      exact y_l_c (I := I) d (m + 1) (fun i hi => if_neg (by omega)) (by omega)
/-! bits of a way -/
def y_e (y i : Nat) : Bool := decide (y / 2 ^ i % 2 = 1)
def y_num (e : Nat → Bool) : Nat → Nat | 0 => 0 | n + 1 => y_num e n + (if e n then 2 ^ n else 0)
theorem y_num_lt {e : Nat → Bool} : ∀ n, y_num e n < 2 ^ n
  | 0 => by show 0 < 1; omega
  | n + 1 => by
    have ih := y_num_lt (e := e) n
    show y_num e n + (if e n then 2 ^ n else 0) < 2 ^ (n + 1)
    rw [Nat.pow_succ]
    cases e n
    · show _ + 0 < _; omega
    · show _ + 2 ^ n < _; omega
theorem y_num_e {e : Nat → Bool} {i : Nat} : ∀ n, i < n → y_e (y_num e n) i = e i
  | 0, h => absurd h (by omega)
  | n + 1, h => by
    have lt := y_num_lt (e := e) n
    unfold y_e
    show decide ((y_num e n + (if e n then 2 ^ n else 0)) / 2 ^ i % 2 = 1) = e i
    by_cases c : i = n
    · subst c
      cases e i
      · show decide ((y_num e i + 0) / 2 ^ i % 2 = 1) = false
        rw [Nat.add_zero, Nat.div_eq_of_lt lt]; rfl
      · show decide ((y_num e i + 2 ^ i) / 2 ^ i % 2 = 1) = true
        rw [Nat.add_div_right _ (Nat.two_pow_pos i), Nat.div_eq_of_lt lt]; rfl
    · have ih := y_num_e (e := e) (i := i) n (by omega)
      unfold y_e at ih
      rw [← ih]
      cases e n
      · show decide ((y_num e n + 0) / 2 ^ i % 2 = 1) = _
        rw [Nat.add_zero]
      · show decide ((y_num e n + 2 ^ n) / 2 ^ i % 2 = 1) = _
        obtain ⟨t, ht⟩ : ∃ t, n = i + 1 + t := ⟨n - (i + 1), by omega⟩
        have hp : 2 ^ n = 2 ^ i * (2 ^ t * 2) := by
          rw [ht, Nat.pow_add, Nat.pow_succ, Nat.mul_assoc, Nat.mul_comm 2]
        rw [hp, Nat.add_mul_div_left _ _ (Nat.two_pow_pos i), Nat.add_mul_mod_self_right]
/-! the best row -/
section BEST
variable {I : Nat} {W L T : Nat → Nat} {w q : Nat}
theorem y_sc_lt {c n : Nat → Nat} {ok : Nat → Bool} (h1 : ok 1 = true) : ∀ m, 1 ≤ m → ∀ i, 1 ≤ i → i ≤ m → ok i = true → (z_sc c n ok m).1 < c i ∨ ((z_sc c n ok m).1 = c i ∧ ((z_sc c n ok m).2.1 < n i ∨ ((z_sc c n ok m).2.1 = n i ∧ (z_sc c n ok m).2.2 ≤ i)))
  | 0, h => absurd h (by omega)
  | m + 1, _ => by
    intro i hi1 hi2 hok
    have e : z_sc c n ok (m + 1) = if ok (m + 1) = true ∧ ((z_sc c n ok m).2.2 = 0 ∨ c (m + 1) < (z_sc c n ok m).1 ∨ (c (m + 1) = (z_sc c n ok m).1 ∧ n (m + 1) < (z_sc c n ok m).2.1)) then (c (m + 1), n (m + 1), m + 1) else z_sc c n ok m := rfl
    by_cases m0 : m = 0
    · subst m0
      have i1 : i = 1 := by omega
      subst i1
      rw [e, if_pos ⟨h1, Or.inl rfl⟩]
      exact Or.inr ⟨rfl, Or.inr ⟨rfl, Nat.le_refl _⟩⟩
    · obtain ⟨p1, p2, p3, p4, p5, p6⟩ := z_sc_way (c := c) (n := n) h1 m (by omega)
      by_cases cnd : ok (m + 1) = true ∧ ((z_sc c n ok m).2.2 = 0 ∨ c (m + 1) < (z_sc c n ok m).1 ∨ (c (m + 1) = (z_sc c n ok m).1 ∧ n (m + 1) < (z_sc c n ok m).2.1))
      · rw [e, if_pos cnd]
        by_cases ei : i = m + 1
        · subst ei
          exact Or.inr ⟨rfl, Or.inr ⟨rfl, Nat.le_refl _⟩⟩
        · have ih := y_sc_lt (c := c) (n := n) h1 m (by omega) i hi1 (by omega) hok
          have cn := cnd.2
          show c (m + 1) < c i ∨ (c (m + 1) = c i ∧ (n (m + 1) < n i ∨ (n (m + 1) = n i ∧ m + 1 ≤ i)))
          omega
      · rw [e, if_neg cnd]
        by_cases ei : i = m + 1
        · subst ei
          have c1 : ¬ c (m + 1) < (z_sc c n ok m).1 := fun z => cnd ⟨hok, Or.inr (Or.inl z)⟩
          have c2 : ¬ (c (m + 1) = (z_sc c n ok m).1 ∧ n (m + 1) < (z_sc c n ok m).2.1) := fun z => cnd ⟨hok, Or.inr (Or.inr z)⟩
          omega
        · exact y_sc_lt (c := c) (n := n) h1 m (by omega) i hi1 (by omega) hok
theorem y_opt (hok : ∀ p, z_ok L w p 1 = true) : ∀ (ks ps : List Nat) (p l : Nat), p + y_sum ks = I → y_pos ks → y_lk L w p ks = true → y_pa I (z_Z I W L T w q) q p l ps →
    (z_Z I W L T w q p l).1 < y_lb I W w p ks + y_lt T q p l ks ∨ ((z_Z I W L T w q p l).1 = y_lb I W w p ks + y_lt T q p l ks ∧ ((z_Z I W L T w q p l).2.1 < ks.length ∨ ((z_Z I W L T w q p l).2.1 = ks.length ∧ (ks = ps ∨ y_lx ps ks))))
  | [], ps, p, l, hs, _, _, hpa => by
    have hp : p = I := hs
    subst hp
    rw [z_Z_end]
    refine Or.inr ⟨rfl, Or.inr ⟨rfl, Or.inl ?_⟩⟩
    cases ps with
    | nil => rfl
    | cons k ks => exact absurd hpa.1 (by omega)
  | k :: ks, ps, p, l, hs, hpos, hv, hpa => by
    have hs2 : p + (k + y_sum ks) = I := hs
    have hk1 : 1 ≤ k := hpos.1
    have hpI : p < I := by omega
    have hv2 : z_ok L w p k = true ∧ y_lk L w (p + k) ks = true := (Bool.and_eq_true _ _).mp hv
    cases ps with
    | nil => exact absurd (show p = I from hpa) (by omega)
    | cons k2 ps2 =>
      obtain ⟨-, hk2, hpa2⟩ := hpa
      have eZ := z_Z_eq (W := W) (L := L) (T := T) (w := w) (q := q) (l := l) hpI
      have sl := y_sc_lt (c := fun k => z_lc I W T w q p l k + (z_Z I W L T w q (p + k) (z_nl q l)).1) (n := fun k => 1 + (z_Z I W L T w q (p + k) (z_nl q l)).2.1) (hok p) (I - p) (by omega) k hk1 (by omega) hv2.1
      rw [← eZ] at sl
      have sw := z_sc_way (c := fun k => z_lc I W T w q p l k + (z_Z I W L T w q (p + k) (z_nl q l)).1) (n := fun k => 1 + (z_Z I W L T w q (p + k) (z_nl q l)).2.1) (hok p) (I - p) (by omega)
      rw [← eZ] at sw
      have eb : y_lb I W w p (k :: ks) + y_lt T q p l (k :: ks) = z_lc I W T w q p l k + (y_lb I W w (p + k) ks + y_lt T q (p + k) (z_nl q l) ks) := by
        show _ + _ + (_ + _) = _
        unfold z_lc
        omega
      have el : (k :: ks).length = 1 + ks.length := by rw [List.length_cons]; omega
      rw [eb, el]
      have sl2 : (z_Z I W L T w q p l).1 < z_lc I W T w q p l k + (z_Z I W L T w q (p + k) (z_nl q l)).1 ∨ ((z_Z I W L T w q p l).1 = z_lc I W T w q p l k + (z_Z I W L T w q (p + k) (z_nl q l)).1 ∧ ((z_Z I W L T w q p l).2.1 < 1 + (z_Z I W L T w q (p + k) (z_nl q l)).2.1 ∨ ((z_Z I W L T w q p l).2.1 = 1 + (z_Z I W L T w q (p + k) (z_nl q l)).2.1 ∧ (z_Z I W L T w q p l).2.2 ≤ k))) := sl
      by_cases ek : k2 = k
      · subst ek
        have ih := y_opt hok ks ps2 (p + k2) (z_nl q l) (by omega) hpos.2 hv2.2 hpa2
        rcases ih with i1 | ⟨i1, i2 | ⟨i2, i3⟩⟩
        · left; omega
        · rcases sl2 with s1 | ⟨s1, s2⟩
          · left; omega
          · right; refine ⟨by omega, Or.inl (by omega)⟩
        · rcases sl2 with s1 | ⟨s1, s2 | ⟨s2, s3⟩⟩
          · left; omega
          · right; exact ⟨by omega, Or.inl (by omega)⟩
          · right
            refine ⟨by omega, Or.inr ⟨by omega, ?_⟩⟩
            rcases i3 with i3 | i3
            · exact Or.inl (by rw [i3])
            · exact Or.inr (Or.inr ⟨rfl, i3⟩)
      · -- any row of this first line: compare with itself
        have ex : ∃ qs, y_pa I (z_Z I W L T w q) q (p + k) (z_nl q l) qs := by
          have go : ∀ d p l, p + d = I → ∃ qs, y_pa I (z_Z I W L T w q) q p l qs := by
            intro d
            induction d using Nat.strongRecOn with
            | ind d ihd =>
              intro p l hpd
              by_cases c : p = I
              · exact ⟨[], c⟩
              · obtain ⟨g1, g2, -⟩ := z_Z_step (W := W) (L := L) (T := T) (w := w) (q := q) (a := p) (l := l) (show p < I by omega)
                obtain ⟨qs, hqs⟩ := ihd (I - (p + (z_Z I W L T w q p l).2.2)) (by omega) (p + (z_Z I W L T w q p l).2.2) (z_nl q l) (by omega)
                exact ⟨(z_Z I W L T w q p l).2.2 :: qs, by omega, rfl, hqs⟩
          exact go (I - (p + k)) (p + k) (z_nl q l) (by omega)
        obtain ⟨qs, hqs⟩ := ex
        have ih := y_opt hok ks qs (p + k) (z_nl q l) (by omega) hpos.2 hv2.2 hqs
        have hlt : (z_Z I W L T w q p l).2.2 ≤ k → k2 < k := fun z => by omega
        rcases ih with i1 | ⟨i1, i2 | ⟨i2, i3⟩⟩
        · left; omega
        · rcases sl2 with s1 | ⟨s1, s2⟩
          · left; omega
          · right; refine ⟨by omega, Or.inl (by omega)⟩
        · rcases sl2 with s1 | ⟨s1, s2 | ⟨s2, s3⟩⟩
          · left; omega
          · right; exact ⟨by omega, Or.inl (by omega)⟩
          · right
            exact ⟨by omega, Or.inr ⟨by omega, Or.inr (Or.inl (hlt s3))⟩⟩
theorem y_pa_ex : ∀ d p l, p + d = I → ∃ qs, y_pa I (z_Z I W L T w q) q p l qs := by
  intro d
  induction d using Nat.strongRecOn with
  | ind d ihd =>
    intro p l hpd
    by_cases c : p = I
    · exact ⟨[], c⟩
    · obtain ⟨g1, g2, -⟩ := z_Z_step (W := W) (L := L) (T := T) (w := w) (q := q) (a := p) (l := l) (show p < I by omega)
      obtain ⟨qs, hqs⟩ := ihd (I - (p + (z_Z I W L T w q p l).2.2)) (by omega) (p + (z_Z I W L T w q p l).2.2) (z_nl q l) (by omega)
      exact ⟨(z_Z I W L T w q p l).2.2 :: qs, by omega, rfl, hqs⟩
theorem y_pa_of (hok : ∀ p, z_ok L w p 1 = true) : ∀ (ps : List Nat) (p l : Nat), y_pa I (z_Z I W L T w q) q p l ps → p + y_sum ps = I ∧ y_pos ps ∧ y_lk L w p ps = true ∧ y_lb I W w p ps + y_lt T q p l ps = (z_Z I W L T w q p l).1 ∧ ps.length = (z_Z I W L T w q p l).2.1
  | [], p, l, h => by
    have hp : p = I := h
    subst hp
    rw [z_Z_end]
    exact ⟨rfl, trivial, rfl, rfl, rfl⟩
  | k :: ps, p, l, h => by
    obtain ⟨h1, h2, h3⟩ := h
    obtain ⟨i1, i2, i3, i4, i5⟩ := y_pa_of hok ps (p + k) (z_nl q l) h3
    have eZ := z_Z_eq (W := W) (L := L) (T := T) (w := w) (q := q) (l := l) h1
    have sw := z_sc_way (c := fun k => z_lc I W T w q p l k + (z_Z I W L T w q (p + k) (z_nl q l)).1) (n := fun k => 1 + (z_Z I W L T w q (p + k) (z_nl q l)).2.1) (hok p) (I - p) (by omega)
    rw [← eZ, ← h2] at sw
    obtain ⟨s1, s2, s3, s4, s5, -⟩ := sw
    refine ⟨by show p + (k + y_sum ps) = I; omega, ⟨s1, i2⟩, ?_, ?_, ?_⟩
    · show (z_ok L w p k && y_lk L w (p + k) ps) = true
      rw [s3, i3]; rfl
    · rw [s4, ← i4]
      show _ + _ + (_ + _) = _
      unfold z_lc
      omega
    · rw [s5, ← i5, List.length_cons]; omega
end BEST
theorem y_lr_lt {c : Nat} : ∀ (ps ks : List Nat) (r s : Nat), ps.length = ks.length → (∀ k ∈ ps, k ≤ 6) → r < s → y_lr r ps + c < y_lr s ks + c
  | [], [], r, s, _, _, h => by show r + c < s + c; omega
  | p :: ps, k :: ks, r, s, hl, h6, h => by
    have hp := h6 p List.mem_cons_self
    exact y_lr_lt ps ks (7 * r + p) (7 * s + k) (by simpa using hl) (fun x hx => h6 x (List.mem_cons_of_mem _ hx)) (by omega)
  | [], _ :: _, _, _, hl, _, _ => by simp at hl
  | _ :: _, [], _, _, hl, _, _ => by simp at hl
theorem y_lx_lr : ∀ (ps ks : List Nat) (r : Nat), ps.length = ks.length → (∀ k ∈ ps, k ≤ 6) → y_lx ps ks → y_lr r ps < y_lr r ks
  | [], [], _, _, _, h => absurd h (fun z => z)
  | p :: ps, k :: ks, r, hl, h6, h => by
    rcases h with h | ⟨rfl, h⟩
    · have := y_lr_lt (c := 0) ps ks (7 * r + p) (7 * r + k) (by simpa using hl) (fun x hx => h6 x (List.mem_cons_of_mem _ hx)) (by omega)
      exact this
    · exact y_lx_lr ps ks (7 * r + p) (by simpa using hl) (fun x hx => h6 x (List.mem_cons_of_mem _ hx)) h
  | [], _ :: _, _, hl, _, _ => by simp at hl
  | _ :: _, [], _, hl, _, _ => by simp at hl
theorem y_sum_le : ∀ (ps : List Nat), ∀ k ∈ ps, k ≤ y_sum ps
  | [], k, h => absurd h List.not_mem_nil
  | p :: ps, k, h => by
    show k ≤ p + y_sum ps
    rcases List.mem_cons.mp h with h | h
    · omega
    · have := y_sum_le ps k h; omega
/-- a way better than, or as good as another -/
def y_be (I : Nat) (W T : Nat → Nat) (w q y y' : Nat) : Prop := y_lb I W w 0 (y_l (y_e y) I I 0) + y_lt T q 0 0 (y_l (y_e y) I I 0) < y_lb I W w 0 (y_l (y_e y') I I 0) + y_lt T q 0 0 (y_l (y_e y') I I 0) ∨ (y_lb I W w 0 (y_l (y_e y) I I 0) + y_lt T q 0 0 (y_l (y_e y) I I 0) = y_lb I W w 0 (y_l (y_e y') I I 0) + y_lt T q 0 0 (y_l (y_e y') I I 0) ∧ ((y_l (y_e y) I I 0).length < (y_l (y_e y') I I 0).length ∨ ((y_l (y_e y) I I 0).length = (y_l (y_e y') I I 0).length ∧ y_lr 0 (y_l (y_e y) I I 0) ≤ y_lr 0 (y_l (y_e y') I I 0))))
theorem y_way_ex {I : Nat} {Z : Nat → Nat → Nat × Nat × Nat} {q : Nat} {ps : List Nat} (hps : y_pa I Z q 0 0 ps) (p1 : 0 + y_sum ps = I) (p2 : y_pos ps) : ∃ y', y' < 2 ^ (I - 1) ∧ y_l (y_e y') I I 0 = ps := by
  by_cases c : I = 0
  · subst c
    refine ⟨0, by omega, ?_⟩
    cases ps with
    | nil => rfl
    | cons k ks =>
      have := p2.1
      have h2 : 0 + (k + y_sum ks) = 0 := p1
      omega
  · cases ps with
    | nil => exact absurd (show 0 = I from hps) (by omega)
    | cons k ks =>
      have h2 : 0 + (k + y_sum ks) = I := p1
      obtain ⟨e, he⟩ := y_l_ex (I := I) I (Nat.le_refl _) 0 k ks p2.1 (by omega) p2.2 (by omega)
      refine ⟨y_num e (I - 1), y_num_lt _, ?_⟩
      rw [← he]
      have key : ∀ d m, d ≤ I → y_l (y_e (y_num e (I - 1))) I d m = y_l e I d m := by
        intro d
        induction d with
        | zero => intro m _; rfl
        | succ d ih =>
          intro m hd
          rw [y_l_s, y_l_s, ih 0 (by omega), ih (m + 1) (by omega)]
          by_cases d0 : d = 0
          · rw [if_pos (Or.inl d0), if_pos (Or.inl d0)]
          · rw [y_num_e (e := e) (i := I - (d + 1)) (I - 1) (by omega)]
      exact key I 0 (Nat.le_refl _)
/-- the best of all ways is the table's -/
theorem y_best {I : Nat} {W L T : Nat → Nat} {w q y : Nat} (hI : I ≤ 6) (hv : y_lk L w 0 (y_l (y_e y) I I 0) = true) (hb : ∀ y', y' < 2 ^ (I - 1) → y_lk L w 0 (y_l (y_e y') I I 0) = true → y_be I W T w q y y') : y_pa I (z_Z I W L T w q) q 0 0 (y_l (y_e y) I I 0) := by
  have hok : ∀ p, z_ok L w p 1 = true := fun p => decide_eq_true (Or.inl rfl)
  obtain ⟨ps, hps⟩ := y_pa_ex (I := I) (W := W) (L := L) (T := T) (w := w) (q := q) I 0 0 (by omega)
  obtain ⟨p1, p2, p3, p4, p5⟩ := y_pa_of hok ps 0 0 hps
  obtain ⟨y', hy', ey'⟩ := y_way_ex hps p1 p2
  have hb2 := hb y' hy' (by rw [ey']; exact p3)
  unfold y_be at hb2
  rw [ey', p4, p5] at hb2
  obtain ⟨s1, s2⟩ := y_l_sum (e := y_e y) (I := I) I 0 (fun _ => rfl)
  have o := y_opt (W := W) (T := T) (q := q) hok (y_l (y_e y) I I 0) ps 0 0 (by omega) s2 hv hps
  rcases o with o | ⟨o1, o | ⟨o2, o | o⟩⟩
  · omega
  · omega
  · rw [o]; exact hps
  · have h6 : ∀ k ∈ ps, k ≤ 6 := fun k hk => by have := y_sum_le ps k hk; omega
    have := y_lx_lr ps (y_l (y_e y) I I 0) 0 (by omega) h6 o
    omega
theorem y_valid_ex {I : Nat} {L : Nat → Nat} {w : Nat} : ∃ y', y' < 2 ^ (I - 1) ∧ y_lk L w 0 (y_l (y_e y') I I 0) = true := by
  have hok : ∀ p, z_ok L w p 1 = true := fun p => decide_eq_true (Or.inl rfl)
  obtain ⟨ps, hps⟩ := y_pa_ex (I := I) (W := fun _ => 0) (L := L) (T := fun _ => 0) (w := w) (q := 1) I 0 0 (by omega)
  obtain ⟨p1, p2, p3, p4, p5⟩ := y_pa_of hok ps 0 0 hps
  obtain ⟨y', hy', ey'⟩ := y_way_ex hps p1 p2
  exact ⟨y', hy', by rw [ey']; exact p3⟩
theorem y_len_le : ∀ (ks : List Nat), y_pos ks → ks.length ≤ y_sum ks
  | [], _ => Nat.le_refl _
  | k :: ks, h => by
    have := y_len_le ks h.2
    have h1 : 1 ≤ k := h.1
    show ks.length + 1 ≤ k + y_sum ks
    omega
theorem y_lb_le {I w : Nat} {W : Nat → Nat} (hI : I ≤ 6) (hw : w ≤ 500) (hW : ∀ j, j < I → W j ≤ 768) : ∀ (ks : List Nat) (p : Nat), p + y_sum ks = I → y_lb I W w p ks ≤ 90000000 * ks.length
  | [], _, _ => Nat.zero_le _
  | k :: ks, p, h => by
    have h2 : p + (k + y_sum ks) = I := h
    have ih := y_lb_le hI hw hW ks (p + k) (by omega)
    have a1 := z_wid_le (W := W) (c := 768) (I := I) (a := p) hW (p + k) (by omega) (by omega)
    have a2 : (8 + 768) * (p + k - p) ≤ 776 * 6 := Nat.mul_le_mul_left _ (by omega)
    have a3 := z_bad_le (wd := z_wid W p (p + k)) (c := 4656) (l := decide (p + k = I)) hw (by omega) (by omega)
    show z_bad w (z_wid W p (p + k)) (decide (p + k = I)) + y_lb I W w (p + k) ks ≤ 90000000 * (ks.length + 1)
    omega
theorem y_lt_le {T : Nat → Nat} {q : Nat} (hT : ∀ j, T j ≤ 1600) : ∀ (ks : List Nat) (p l : Nat), y_lt T q p l ks ≤ 1600 * ks.length
  | [], _, _ => Nat.zero_le _
  | k :: ks, p, l => by
    have ih := y_lt_le (T := T) (q := q) hT ks (p + k) (z_nl q l)
    have h1 := hT (p + k)
    show (if l + 1 < q then 0 else T (p + k)) + y_lt T q (p + k) (z_nl q l) ks ≤ 1600 * (ks.length + 1)
    split <;> omega
theorem y_lr_b : ∀ (ks : List Nat) (r : Nat), (∀ k ∈ ks, k ≤ 6) → y_lr r ks < (r + 1) * 7 ^ ks.length
  | [], r, _ => by show r < (r + 1) * 1; omega
  | k :: ks, r, h => by
    have ih := y_lr_b ks (7 * r + k) (fun x hx => h x (List.mem_cons_of_mem _ hx))
    have h6 := h k List.mem_cons_self
    have h7 : (7 * r + k + 1) * 7 ^ ks.length ≤ ((r + 1) * 7) * 7 ^ ks.length := Nat.mul_le_mul_right _ (by omega)
    show y_lr (7 * r + k) ks < (r + 1) * 7 ^ (ks.length + 1)
    rw [Nat.pow_succ, Nat.mul_comm (7 ^ ks.length) 7, ← Nat.mul_assoc]
    omega
