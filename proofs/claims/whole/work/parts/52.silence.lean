/-! SILENCE -/
def z_lsd (S : z_S) (s : Nat) : Nat → Nat | 0 => 0 | k + 1 => if S 4 (8 * s + k) = 0 then z_lsd S s k else z_fl S s (k + 1)
theorem z_lsd_le {S : z_S} {s : Nat} : ∀ k, z_lsd S s k ≤ z_fl S s k
  | 0 => Nat.le_refl _
  | k + 1 => by
    have := z_lsd_le (S := S) (s := s) k
    have e : z_fl S s (k + 1) = z_fl S s k + S 3 (8 * s + k) := rfl
    show (if S 4 (8 * s + k) = 0 then z_lsd S s k else z_fl S s (k + 1)) ≤ _
    split <;> omega
def z_bk (S : z_S) (i : Nat) : Nat → Nat | 0 => 0 | b + 1 => (S 1 b - z_lsd S (12 * i + b) (S 2 (12 * i + b))) + (if z_lsd S (12 * i + b) (S 2 (12 * i + b)) = 0 then z_bk S i b else 0)
def z_fv (S : z_S) (s len : Nat) : Nat → Nat → Nat | 0, _ => len | d + 1, k => if S 4 (8 * s + k) = 0 then z_fv S s len d (k + 1) else z_fl S s k
def z_fwd (S : z_S) (i : Nat) : Nat → Nat → Nat | 0, _ => 0 | d + 1, b => if z_fv S (12 * i + b) (S 1 b) (S 2 (12 * i + b)) 0 < S 1 b then z_fv S (12 * i + b) (S 1 b) (S 2 (12 * i + b)) 0 else S 1 b + z_fwd S i d (b + 1)
theorem z_fv_le {S : z_S} (W : z_W S) {s len : Nat} (hs : s < 60) (hf : z_fl S s (S 2 s) ≤ len) : ∀ d k, k + d = S 2 s → z_fv S s len d k ≤ len
  | 0, _, _ => Nat.le_refl _
  | d + 1, k, h => by
    show (if S 4 (8 * s + k) = 0 then z_fv S s len d (k + 1) else z_fl S s k) ≤ len
    have := z_fv_le W hs hf d (k + 1) (by omega)
    have h2 := z_fl_le (S := S) s (show k ≤ S 2 s by omega)
    split <;> omega
theorem z_bk_le {S : z_S} (W : z_W S) {i : Nat} : ∀ b, b ≤ S 0 0 → z_bk S i b ≤ 32 * b
  | 0, _ => Nat.zero_le _
  | b + 1, h => by
    have := z_bk_le W (i := i) b (by omega)
    have hl := W.2.1 b (by omega)
    show (S 1 b - z_lsd S (12 * i + b) (S 2 (12 * i + b))) + (if z_lsd S (12 * i + b) (S 2 (12 * i + b)) = 0 then z_bk S i b else 0) ≤ _
    split <;> omega
theorem z_fwd_le {S : z_S} (W : z_W S) {i : Nat} : ∀ d b, b + d ≤ S 0 0 → z_fwd S i d b ≤ 32 * d
  | 0, _, _ => Nat.zero_le _
  | d + 1, b, h => by
    have := z_fwd_le W (i := i) d (b + 1) (by omega)
    have hl := W.2.1 b (by omega)
    show (if z_fv S (12 * i + b) (S 1 b) (S 2 (12 * i + b)) 0 < S 1 b then z_fv S (12 * i + b) (S 1 b) (S 2 (12 * i + b)) 0 else S 1 b + z_fwd S i d (b + 1)) ≤ _
    split <;> omega
theorem x_silenceAtEnd {f : sx_F} {S : z_S} (Z : z_X f S) (W : z_W S) {i b : Nat} (hi : i < 5) (hb : b < S 0 0) {Q : Int32 → Prop} (h : Q (nI (S 1 b - z_lsd S (12 * i + b) (S 2 (12 * i + b))))) : P_X4_silenceAtEnd f (nI i) (nI b) Q := by
  have hn := W.1
  intro B15 B52 h15 h52
  refine x_slotOf ?_
  have hs : 12 * i + b < 60 := by omega
  have hfl := W.2.2.2.2.2.1 i b hi hb
  generalize 12 * i + b = s at hs h hfl
  have hc := W.2.2.1 s hs
  refine z_up (B := fun k => B15 (nI s) (nI (z_fl S s k)) (nI (z_lsd S s k)) (nI k)) (S 2 s) (fun k hk ih => h15 _ _ _ _ ⟨vp_in_nI (by omega) (by omega), ?_⟩)
  rw [nI_clamp (by omega), Z.2.2.1 s hs]
  refine pk_le (S 2 s) k (fun c => ⟨vp_in_nI (by omega) (by omega), ?_⟩) (fun c => x_lengthAt Z hs (by omega) (nm_e (x_pitchAt Z hs (by omega) ?_)))
  · have ek : k = S 2 s := by omega
    have hl := z_lsd_le (S := S) (s := s) (S 2 s)
    rw [nI_clamp (by omega), Z.2.1 b (by omega), ek, pk_sub (by omega)]
    exact h
  · have hp60 := (W.2.2.2.1 (8 * s + k) (by omega)).2
    have i2 : B15 (nI s) (nI (z_fl S s k + S 3 (8 * s + k))) (nI (if S 4 (8 * s + k) = 0 then z_lsd S s k else z_fl S s (k + 1))) (nI (k + 1)) := ih c
    rw [nI_add]
    refine pk_le (S 4 (8 * s + k)) 0 (fun z => h52 _ _ _ _ (nm_e ?_)) (fun z => h52 _ _ _ _ (nm_e ?_))
    · rw [if_pos (by omega)] at i2
      rw [nI_1]; exact i2
    · rw [if_neg (by omega)] at i2
      rw [nI_1]; exact i2
theorem x_silenceAtBeginning {f : sx_F} {S : z_S} (Z : z_X f S) (W : z_W S) {i b : Nat} (hi : i < 5) (hb : b < S 0 0) {Q : Int32 → Prop} (h : Q (nI (z_fv S (12 * i + b) (S 1 b) (S 2 (12 * i + b)) 0))) : P_X4_silenceAtBeginning f (nI i) (nI b) Q := by
  have hn := W.1
  intro B12 h12
  refine x_slotOf ?_
  have hs : 12 * i + b < 60 := by omega
  generalize 12 * i + b = s at hs h
  have hc := W.2.2.1 s hs
  have key : ∀ d k, k + d = S 2 s → Q (nI (z_fv S s (S 1 b) d k)) → B12 (nI s) (nI (z_fl S s k)) (nI k) := by
    intro d
    induction d with
    | zero =>
      intro k hk hq
      refine h12 _ _ _ ⟨vp_in_nI (by omega) (by omega), ?_⟩
      rw [nI_clamp (n := s) (by omega), Z.2.2.1 s hs, nI_clamp (n := b) (by omega), Z.2.1 b (by omega)]
      exact pk_le (S 2 s) k (fun c => ⟨vp_in_nI (by omega) (by omega), hq⟩) (fun c => absurd c (by omega))
    | succ d ih =>
      intro k hk hq
      refine h12 _ _ _ ⟨vp_in_nI (by omega) (by omega), ?_⟩
      rw [nI_clamp (n := s) (by omega), Z.2.2.1 s hs]
      have hp60 := (W.2.2.2.1 (8 * s + k) (by omega)).2
      have hq : Q (nI (if S 4 (8 * s + k) = 0 then z_fv S s (S 1 b) d (k + 1) else z_fl S s k)) := hq
      refine pk_le (S 2 s) k (fun c => absurd c (by omega)) (fun c => x_pitchAt Z hs (by omega) (pk_le (S 4 (8 * s + k)) 0 (fun z => x_lengthAt Z hs (by omega) (nm_e (nm_e ?_))) (fun z => ?_)))
      · rw [if_pos (by omega)] at hq
        rw [nI_add, nI_1]
        exact ih (k + 1) (by omega) hq
      · rw [if_neg (by omega)] at hq
        exact hq
  exact key (S 2 s) 0 (by omega) h
theorem x_silenceAround {f : sx_F} {S : z_S} (Z : z_X f S) (W : z_W S) {i b : Nat} (hi : i < 5) (hb : b < S 0 0) {Q : Int32 → Prop} (h : Q (nI (z_bk S i b + z_fwd S i (S 0 0 - b) b))) : P_X4_silenceAround f (nI i) (nI b) Q := by
  have hn := W.1
  intro B7 B47 B50 h7 h47 h50
  have fw : ∀ d c acc, c + d = S 0 0 → Q (nI (acc + z_fwd S i d c)) → B50 (nI acc) (nI c) := by
    intro d
    induction d with
    | zero =>
      intro c acc hc hq
      refine h50 _ _ ?_
      rw [Z.1]
      exact pk_le (S 0 0) c (fun _ => hq) (fun z => absurd z (by omega))
    | succ d ih =>
      intro c acc hc hq
      refine h50 _ _ ?_
      rw [Z.1]
      refine pk_le (S 0 0) c (fun z => absurd z (by omega)) (fun z => x_silenceAtBeginning Z W hi z (nm_e ⟨vp_in_nI (by omega) (by omega), ?_⟩))
      have hl := W.2.1 c z
      have hle := z_fv_le W (s := 12 * i + c) (by omega) (W.2.2.2.2.2.1 i c hi z) (S 2 (12 * i + c)) 0 (by omega)
      rw [nI_clamp (by omega), Z.2.1 c (by omega), nI_add]
      have hq : Q (nI (acc + (if z_fv S (12 * i + c) (S 1 c) (S 2 (12 * i + c)) 0 < S 1 c then z_fv S (12 * i + c) (S 1 c) (S 2 (12 * i + c)) 0 else S 1 c + z_fwd S i d (c + 1)))) := hq
      refine pk_le (S 1 c) (z_fv S (12 * i + c) (S 1 c) (S 2 (12 * i + c)) 0) (fun y => nm_e ?_) (fun y => ?_)
      · rw [if_neg (by omega)] at hq
        rw [nI_1]
        refine ih (c + 1) _ (by omega) ?_
        rw [show acc + z_fv S (12 * i + c) (S 1 c) (S 2 (12 * i + c)) 0 + z_fwd S i d (c + 1) = acc + (S 1 c + z_fwd S i d (c + 1)) by omega]
        exact hq
      · rw [if_pos y] at hq; exact hq
  have bw : ∀ c acc v, c ≤ b → ((c = 0 ∧ v < 0) ∨ (0 < c ∧ v = nI (c - 1))) → B47 (nI (acc + z_bk S i c)) → B7 (nI acc) v := by
    intro c
    induction c with
    | zero =>
      intro acc v hc hv hq
      rcases hv with ⟨-, hv⟩ | ⟨hv, -⟩
      · exact h7 _ _ ⟨fun _ => hq, fun z => absurd hv z⟩
      · omega
    | succ c ih =>
      intro acc v hc hv hq
      rcases hv with ⟨hv, -⟩ | ⟨-, hv⟩
      · omega
      rw [hv, show c + 1 - 1 = c by omega]
      have hl := W.2.1 c (by omega)
      have hls := z_lsd_le (S := S) (s := 12 * i + c) (S 2 (12 * i + c))
      have hfl := W.2.2.2.2.2.1 i c hi (by omega)
      refine h7 _ _ ⟨fun z => absurd z (nI_pos (by omega)), fun _ => x_silenceAtEnd Z W hi (by omega) (nm_e ⟨vp_in_nI (by omega) (by omega), ?_⟩)⟩
      rw [nI_clamp (by omega), Z.2.1 c (by omega), nI_add]
      have hq : B47 (nI (acc + ((S 1 c - z_lsd S (12 * i + c) (S 2 (12 * i + c))) + (if z_lsd S (12 * i + c) (S 2 (12 * i + c)) = 0 then z_bk S i c else 0)))) := hq
      refine pk_le (S 1 c) (S 1 c - z_lsd S (12 * i + c) (S 2 (12 * i + c))) (fun y => nm_e (ih _ _ (by omega) ?_ ?_)) (fun y => ?_)
      · by_cases e : c = 0
        · exact Or.inl ⟨e, by rw [e]; decide⟩
        · refine Or.inr ⟨by omega, ?_⟩
          rw [show c = (c - 1) + 1 by omega, pk_m1]; rfl
      · rw [if_pos (by omega)] at hq
        rw [Nat.add_assoc]; exact hq
      · rw [if_neg (by omega)] at hq; exact hq
  refine nm_e (bw b 0 _ (Nat.le_refl _) ?_ (h47 _ (fw (S 0 0 - b) b _ (by omega) (by rw [Nat.zero_add]; exact h))))
  by_cases e : b = 0
  · exact Or.inl ⟨e, by rw [e]; decide⟩
  · refine Or.inr ⟨by omega, pk_sub (a := b) (b := 1) (by omega)⟩
theorem m_silentTo {g : sx_F} {S : z_S} (M : z_M g S) (W : z_W S) {i b : Nat} (hi : i < 5) (hb : b < S 0 0) {Q : Int32 → Prop} (h : Q (nI (z_bk S i (b + 1)))) : P_X7_silentTo g (nI i) (nI b) Q := by
  have hn := W.1
  intro B5 B24 B67 h5 h24 h67
  have bw : ∀ c acc v, c ≤ b + 1 → ((c = 0 ∧ v < 0) ∨ (0 < c ∧ v = nI (c - 1))) → Q (nI (acc + z_bk S i c)) → B5 (nI acc) v := by
    intro c
    induction c with
    | zero =>
      intro acc v hc hv hq
      rcases hv with ⟨-, hv⟩ | ⟨hv, -⟩
      · exact h5 _ _ ⟨fun _ => hq, fun z => absurd hv z⟩
      · omega
    | succ c ih =>
      intro acc v hc hv hq
      rcases hv with ⟨hv, -⟩ | ⟨-, hv⟩
      · omega
      rw [hv, show c + 1 - 1 = c by omega]
      have hl := W.2.1 c (by omega)
      have hls := z_lsd_le (S := S) (s := 12 * i + c) (S 2 (12 * i + c))
      have hfl := W.2.2.2.2.2.1 i c hi (by omega)
      refine h5 _ _ ⟨fun z => absurd z (nI_pos (by omega)), fun _ => m_cell ?_⟩
      have hq : Q (nI (acc + ((S 1 c - z_lsd S (12 * i + c) (S 2 (12 * i + c))) + (if z_lsd S (12 * i + c) (S 2 (12 * i + c)) = 0 then z_bk S i c else 0)))) := hq
      have hs : 12 * i + c < 60 := by omega
      generalize 12 * i + c = s at hs hls hfl hq
      have hcs := W.2.2.1 s hs
      refine z_up (B := fun k => B24 (nI acc) (nI c) (nI s) (nI (z_lsd S s k)) (nI k)) (S 2 s) (fun k hk ihk => h24 _ _ _ _ _ ⟨vp_in_nI (by omega) (by omega), ?_⟩)
      rw [nI_clamp (n := s) (by omega), M.2.2.1 s hs]
      refine pk_le (S 2 s) k (fun z => ⟨vp_in_nI (by omega) (by omega), nm_e ?_⟩) (fun z => ?_)
      · have ek : k = S 2 s := by omega
        rw [nI_clamp (by omega), M.2.1 c (by omega), ek, pk_sub (by omega), nI_add]
        refine pk_le (z_lsd S s (S 2 s)) 0 (fun y => nm_e (ih _ _ (by omega) ?_ ?_)) (fun y => ?_)
        · by_cases e : c = 0
          · exact Or.inl ⟨e, by rw [e]; decide⟩
          · refine Or.inr ⟨by omega, ?_⟩
            rw [show c = (c - 1) + 1 by omega, pk_m1]; rfl
        · rw [if_pos (by omega)] at hq
          rw [Nat.add_assoc]; exact hq
        · rw [if_neg (by omega)] at hq; exact hq
      · have hp60 := (W.2.2.2.1 (8 * s + k) (by omega)).2
        have i2 : B24 (nI acc) (nI c) (nI s) (nI (if S 4 (8 * s + k) = 0 then z_lsd S s k else z_fl S s (k + 1))) (nI (k + 1)) := ihk z
        rw [z_at', nI_clamp (by omega), M.2.2.2.2 _ (by omega)]
        refine ⟨vp_in_nI (by omega) (by omega), pk_le (S 4 (8 * s + k)) 0 (fun y => h67 _ _ _ _ _ (nm_e ?_)) (fun y => ?_)⟩
        · rw [if_pos (by omega)] at i2
          rw [nI_1]; exact i2
        · rw [nI_1]
          refine m_filled M hs (by omega) (h67 _ _ _ _ _ (nm_e ?_))
          rw [if_neg (by omega)] at i2
          rw [nI_1]; exact i2
  exact bw (b + 1) 0 _ (Nat.le_refl _) (Or.inr ⟨by omega, rfl⟩) (by rw [Nat.zero_add]; exact h)
theorem m_silentFrom {g : sx_F} {S : z_S} (M : z_M g S) (W : z_W S) {i b : Nat} (hi : i < 5) (hb : b ≤ S 0 0) {Q : Int32 → Prop} (h : Q (nI (z_fwd S i (S 0 0 - b) b))) : P_X7_silentFrom g (nI i) (nI b) Q := by
  have hn := W.1
  intro B5 B25 h5 h25
  have fw : ∀ d c acc, c + d = S 0 0 → Q (nI (acc + z_fwd S i d c)) → B5 (nI acc) (nI c) := by
    intro d
    induction d with
    | zero =>
      intro c acc hc hq
      refine h5 _ _ ?_
      rw [M.1]
      exact pk_le (S 0 0) c (fun _ => hq) (fun z => absurd z (by omega))
    | succ d ih =>
      intro c acc hc hq
      refine h5 _ _ ?_
      rw [M.1]
      refine pk_le (S 0 0) c (fun z => absurd z (by omega)) (fun z => m_cell ?_)
      have hl := W.2.1 c z
      have hq : Q (nI (acc + (if z_fv S (12 * i + c) (S 1 c) (S 2 (12 * i + c)) 0 < S 1 c then z_fv S (12 * i + c) (S 1 c) (S 2 (12 * i + c)) 0 else S 1 c + z_fwd S i d (c + 1)))) := hq
      have hs : 12 * i + c < 60 := by omega
      have hfl := W.2.2.2.2.2.1 i c hi z
      generalize 12 * i + c = s at hs hfl hq
      have hcs := W.2.2.1 s hs
      have inner : ∀ e k, k + e = S 2 s → Q (nI (acc + (if z_fv S s (S 1 c) e k < S 1 c then z_fv S s (S 1 c) e k else S 1 c + z_fwd S i d (c + 1)))) → B25 (nI acc) (nI c) (nI s) (nI k) := by
        intro e
        induction e with
        | zero =>
          intro k hk hq
          refine h25 _ _ _ _ ⟨vp_in_nI (by omega) (by omega), ?_⟩
          rw [nI_clamp (n := s) (by omega), M.2.2.1 s hs]
          refine pk_le (S 2 s) k (fun _ => ⟨vp_in_nI (by omega) (by omega), nm_e (nm_e ?_)⟩) (fun y => absurd y (by omega))
          rw [show z_fv S s (S 1 c) 0 k = S 1 c from rfl, if_neg (Nat.lt_irrefl _)] at hq
          rw [nI_clamp (by omega), M.2.1 c (by omega), nI_add, nI_1]
          refine ih (c + 1) _ (by omega) ?_
          rw [Nat.add_assoc]; exact hq
        | succ e ihe =>
          intro k hk hq
          refine h25 _ _ _ _ ⟨vp_in_nI (by omega) (by omega), ?_⟩
          rw [nI_clamp (n := s) (by omega), M.2.2.1 s hs]
          have hp60 := (W.2.2.2.1 (8 * s + k) (by omega)).2
          have ev : z_fv S s (S 1 c) (e + 1) k = if S 4 (8 * s + k) = 0 then z_fv S s (S 1 c) e (k + 1) else z_fl S s k := rfl
          rw [z_at', nI_clamp (n := 8 * s + k) (by omega), M.2.2.2.2 _ (by omega)]
          refine pk_le (S 2 s) k (fun y => absurd y (by omega)) (fun y => ⟨vp_in_nI (by omega) (by omega), pk_le (S 4 (8 * s + k)) 0 (fun w => nm_e ?_) (fun w => m_filled M hs (by omega) ?_)⟩)
          · rw [nI_1]
            rw [if_pos (by omega)] at ev
            rw [ev] at hq
            exact ihe (k + 1) (by omega) hq
          · rw [if_neg (by omega)] at ev
            have lt := z_fl_lt W hs (show k < S 2 s by omega) (Nat.le_refl _)
            rw [ev, if_pos (by omega)] at hq
            rw [nI_add]; exact hq
      exact inner (S 2 s) 0 (by omega) hq
  have h' : Q (nI (0 + z_fwd S i (S 0 0 - b) b)) := by rw [Nat.zero_add]; exact h
  exact fw (S 0 0 - b) b 0 (by omega) h'
