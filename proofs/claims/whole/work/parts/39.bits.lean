def z_put (x a : Int32) (k : Nat) : Int32 := (x &&& ((3 <<< ((2 * nI k) &&& 31)) ^^^ (-1))) ||| (a <<< ((2 * nI k) &&& 31))
theorem z_c8 {P : Nat → Prop} (h0 : P 0) (h1 : P 1) (h2 : P 2) (h3 : P 3) (h4 : P 4) (h5 : P 5) (h6 : P 6) (h7 : P 7) {k : Nat} (hk : k < 8) : P k := by
  rcases (show k = 0 ∨ k = 1 ∨ k = 2 ∨ k = 3 ∨ k = 4 ∨ k = 5 ∨ k = 6 ∨ k = 7 by omega) with rfl | rfl | rfl | rfl | rfl | rfl | rfl | rfl <;> assumption
theorem z_sh {k : Nat} (hk : k < 8) : ((((2 * nI k) &&& 31) : Int32).toBitVec.smod 32).toNat = 2 * k :=
  z_c8 (P := fun k => ((((2 * nI k) &&& 31) : Int32).toBitVec.smod 32).toNat = 2 * k) (by decide) (by decide) (by decide) (by decide) (by decide) (by decide) (by decide) (by decide) hk
theorem z_bit_v (x : Int32) {k : Nat} (hk : k < 8) : (z_bit x k).toBitVec = x.toBitVec.sshiftRight (2 * k) &&& 3#32 := by
  unfold z_bit
  rw [Int32.toBitVec_and, Int32.toBitVec_shiftRight]
  show x.toBitVec.sshiftRight (((((2 * nI k) &&& 31) : Int32).toBitVec.smod 32).toNat) &&& _ = _
  rw [z_sh hk]
  rfl
theorem z_put_v (x a : Int32) {k : Nat} (hk : k < 8) : (z_put x a k).toBitVec = (x.toBitVec &&& ((3#32 <<< (2 * k)) ^^^ (-1#32))) ||| (a.toBitVec <<< (2 * k)) := by
  unfold z_put
  rw [Int32.toBitVec_or, Int32.toBitVec_and, Int32.toBitVec_xor, Int32.toBitVec_shiftLeft, Int32.toBitVec_shiftLeft]
  show (x.toBitVec &&& ((3#32 <<< (((((2 * nI k) &&& 31) : Int32).toBitVec.smod 32).toNat)) ^^^ _)) ||| (a.toBitVec <<< (((((2 * nI k) &&& 31) : Int32).toBitVec.smod 32).toNat)) = _
  rw [z_sh hk]
  rfl
theorem z_3bit (n : Nat) : (3#32).getLsbD n = decide (n < 2) := by
  by_cases h : n < 2
  · rcases (show n = 0 ∨ n = 1 by omega) with rfl | rfl <;> rfl
  · rw [decide_eq_false h]
    exact (BitVec.getLsbD_ofNat 32 3 n).trans (by rw [Nat.testBit_lt_two_pow (Nat.lt_of_lt_of_le (by decide : 3 < 2 ^ 2) (Nat.pow_le_pow_right (by decide) (by omega)))]; simp)
theorem z_bit_0 {k : Nat} (hk : k < 8) : z_bit 0 k = 0 := by
  apply Int32.toBitVec_inj.mp
  rw [z_bit_v 0 hk]
  simp
theorem z_abit {a n : Nat} (ha : a ≤ 2) (hn : 2 ≤ n) : (nI a).toBitVec.getLsbD n = false := by
  show (BitVec.ofNat 32 a).getLsbD n = false
  rw [BitVec.getLsbD_ofNat, Nat.testBit_lt_two_pow (Nat.lt_of_lt_of_le (by omega : a < 2 ^ 2) (Nat.pow_le_pow_right (by decide) hn))]
  simp
theorem z_ones {n : Nat} (hn : n < 32) : (-1#32).getLsbD n = true := by
  rw [show (-1#32) = BitVec.allOnes 32 by decide, BitVec.getLsbD_allOnes, decide_eq_true hn]
theorem z_put_b (x : Int32) {a k n : Nat} (hk : k < 8) (hn : n < 32) : (z_put x (nI a) k).toBitVec.getLsbD n = ((x.toBitVec.getLsbD n && ((!decide (n < 2 * k) && decide (n - 2 * k < 2)) ^^ true)) || (!decide (n < 2 * k) && (nI a).toBitVec.getLsbD (n - 2 * k))) := by
  rw [z_put_v _ _ hk, BitVec.getLsbD_or, BitVec.getLsbD_and, BitVec.getLsbD_xor, z_ones hn, BitVec.getLsbD_shiftLeft, BitVec.getLsbD_shiftLeft, z_3bit, decide_eq_true hn, Bool.true_and]
theorem z_bit_b (x : Int32) {k i : Nat} (hk : k < 8) (hi : i < 2) : (z_bit x k).toBitVec.getLsbD i = x.toBitVec.getLsbD (2 * k + i) := by
  rw [z_bit_v _ hk, BitVec.getLsbD_and, z_3bit, decide_eq_true hi, Bool.and_true, BitVec.getLsbD_sshiftRight, if_pos (by omega), decide_eq_false (by omega)]
  rfl
theorem z_bit_h (x : Int32) {k i : Nat} (hk : k < 8) (hi : ¬ i < 2) : (z_bit x k).toBitVec.getLsbD i = false := by
  rw [z_bit_v _ hk, BitVec.getLsbD_and, z_3bit, decide_eq_false hi, Bool.and_false]
theorem z_bit_s {x : Int32} {a k : Nat} (hk : k < 8) (ha : a ≤ 2) : z_bit (z_put x (nI a) k) k = nI a := by
  apply Int32.toBitVec_inj.mp
  apply BitVec.eq_of_getLsbD_eq
  intro i hi
  by_cases h : i < 2
  · rw [z_bit_b _ hk h, z_put_b _ hk (by omega), decide_eq_false (by omega), decide_eq_true (by omega), show 2 * k + i - 2 * k = i by omega]
    simp
  · rw [z_bit_h _ hk h, z_abit ha (by omega)]
theorem z_bit_n {x : Int32} {a k j : Nat} (hk : k < 8) (hj : j < 8) (n : j ≠ k) (ha : a ≤ 2) : z_bit (z_put x (nI a) k) j = z_bit x j := by
  apply Int32.toBitVec_inj.mp
  apply BitVec.eq_of_getLsbD_eq
  intro i hi
  by_cases h : i < 2
  · rw [z_bit_b _ hj h, z_bit_b _ hj h, z_put_b _ hk (by omega)]
    by_cases c : 2 * j + i < 2 * k
    · rw [decide_eq_true c]
      simp
    · rw [decide_eq_false c, decide_eq_false (by omega), z_abit ha (by omega)]
      simp
  · rw [z_bit_h _ hj h, z_bit_h _ hj h]
