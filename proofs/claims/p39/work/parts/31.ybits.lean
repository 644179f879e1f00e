/-! BITS OF LONGS -/
def y_bt (x : Int64) (k m : Nat) : Nat := x.toBitVec.toNat / 2 ^ k % 2 ^ m
theorem y_bt_lt {x : Int64} {k m : Nat} : y_bt x k m < 2 ^ m := Nat.mod_lt _ (Nat.two_pow_pos m)
theorem y_sr : ∀ k : Fin 64, ((((nI k.val).toInt64.toUInt64 &&& Int64.toUInt64 63)).toBitVec % 64).toNat = k.val := by decide +kernel
theorem y_sl : ∀ k : Fin 64, (((nI k.val).toInt64 &&& (63 : Int64)).toBitVec.smod 64).toNat = k.val := by decide +kernel
theorem y_shr {x : Int64} {k : Nat} (hk : k < 64) : (sl_shr x (nI k)).toBitVec.toNat = x.toBitVec.toNat / 2 ^ k := by
  have h := y_sr ⟨k, hk⟩
  unfold sl_shr
  rw [UInt64.toBitVec_toInt64, UInt64.toBitVec_shiftRight, BitVec.ushiftRight_eq', BitVec.toNat_ushiftRight, h, Nat.shiftRight_eq_div_pow]
  rfl
theorem y_shl {x : Int64} {k : Nat} (hk : k < 64) : (sl_shl x (nI k)).toBitVec = x.toBitVec <<< k := by
  have h := y_sl ⟨k, hk⟩
  unfold sl_shl
  rw [Int64.toBitVec_shiftLeft, BitVec.shiftLeft_eq', h]
theorem y_toI32 {z : Int64} {n : Nat} (h : z.toBitVec.toNat = n) (hn : n < 2 ^ 31) : z.toInt32 = nI n := by
  apply Int32.toBitVec_inj.mp
  apply BitVec.eq_of_toNat_eq
  rw [Int64.toBitVec_toInt32]
  show _ = (BitVec.ofNat 32 n).toNat
  rw [BitVec.toNat_ofNat, Nat.mod_eq_of_lt (by omega)]
  first
    | rw [BitVec.signExtend_eq_setWidth_of_le _ (by omega), BitVec.toNat_setWidth, h, Nat.mod_eq_of_lt (by omega)]
    | (rw [BitVec.signExtend_eq_setWidth_of_lt _ (by omega), BitVec.toNat_setWidth, h, Nat.mod_eq_of_lt (by omega)])
    | (simp [BitVec.signExtend, BitVec.toInt_eq_toNat_cond, h]; omega)
/-- what the law reads out of a long -/
theorem y_get {x C : Int64} {k m : Nat} (hk : k < 64) (hm : m ≤ 30) (hC : C.toBitVec.toNat = 2 ^ m - 1) : (sl_shr x (nI k) &&& C).toInt32 = nI (y_bt x k m) := by
  refine y_toI32 ?_ (Nat.lt_of_lt_of_le y_bt_lt (Nat.pow_le_pow_right (by omega) (by omega)))
  rw [Int64.toBitVec_and, BitVec.toNat_and, hC, Nat.and_two_pow_sub_one_eq_mod, y_shr hk]
  rfl
theorem y_bt_bit {x : Int64} {k m i : Nat} : (y_bt x k m).testBit i = (decide (i < m) && x.toBitVec.getLsbD (k + i)) := by
  unfold y_bt
  rw [Nat.testBit_mod_two_pow, Nat.testBit_div_two_pow, BitVec.getLsbD, Nat.add_comm i k]
def y_put (x C : Int64) (k : Int32) (v : Int32) : Int64 := (x &&& ((sl_shl C k) ^^^ (-1))) ||| (sl_shl v.toInt64 k)
theorem y_long {n : Nat} (h : n < 2 ^ 31) : (nI n).toInt64.toBitVec.toNat = n := by
  have e : (nI n).toInt64 = Int64.ofNat n := by
    apply Int64.toInt_inj.mp
    rw [Int32.toInt_toInt64, nI_toInt h, Int64.toInt_ofNat_of_lt (by omega)]
  rw [e]
  show (BitVec.ofNat 64 n).toNat = n
  rw [BitVec.toNat_ofNat, Nat.mod_eq_of_lt (by omega)]
theorem y_put_bit {x C : Int64} {k m n j : Nat} (hk : k < 64) (hn : n < 2 ^ 31) (hC : C.toBitVec.toNat = 2 ^ m - 1) (hj : j < 64) : (y_put x C (nI k) (nI n)).toBitVec.getLsbD j = ((x.toBitVec.getLsbD j && !(decide (k ≤ j) && decide (j - k < m))) || (decide (k ≤ j) && n.testBit (j - k))) := by
  have e1 : C.toBitVec = BitVec.ofNat 64 (2 ^ m - 1) := by rw [← hC, BitVec.ofNat_toNat, BitVec.setWidth_eq]
  have e2 : ∀ i, C.toBitVec.getLsbD i = decide (i < m) := fun i => by
    rw [BitVec.getLsbD, hC, Nat.testBit_two_pow_sub_one]
  have e3 : ∀ i, (nI n).toInt64.toBitVec.getLsbD i = n.testBit i := fun i => by
    rw [BitVec.getLsbD, y_long hn]
  have e4 : ((-1 : Int64).toBitVec).getLsbD j = true := by
    show (BitVec.allOnes 64).getLsbD j = true
    rw [BitVec.getLsbD_allOnes]
    exact decide_eq_true hj
  unfold y_put
  rw [Int64.toBitVec_or, Int64.toBitVec_and, Int64.toBitVec_xor, y_shl hk, y_shl hk, BitVec.getLsbD_or, BitVec.getLsbD_and, BitVec.getLsbD_xor, BitVec.getLsbD_shiftLeft, BitVec.getLsbD_shiftLeft, e2, e3, e4]
  by_cases h : k ≤ j
  · rw [decide_eq_true hj, decide_eq_false (show ¬ j < k by omega), decide_eq_true h]
    simp
  · rw [decide_eq_true hj, decide_eq_true (show j < k by omega), decide_eq_false h]
    simp
/-- the bits that were put -/
theorem y_put_in {x C : Int64} {k m n k' m' : Nat} (hn : n < 2 ^ 31) (hC : C.toBitVec.toNat = 2 ^ m - 1) (hm : k + m ≤ 64) (h1 : k ≤ k') (h2 : k' + m' ≤ k + m) (hm' : 0 < m') : y_bt (y_put x C (nI k) (nI n)) k' m' = n / 2 ^ (k' - k) % 2 ^ m' := by
  apply Nat.eq_of_testBit_eq
  intro i
  rw [y_bt_bit, Nat.testBit_mod_two_pow, Nat.testBit_div_two_pow]
  by_cases hi : i < m'
  · rw [y_put_bit (by omega) hn hC (by omega), decide_eq_true hi, decide_eq_true (show k ≤ k' + i by omega), decide_eq_true (show k' + i - k < m by omega), show k' + i - k = i + (k' - k) by omega]
    simp
  · rw [decide_eq_false hi]
    simp
/-- and those beside them -/
theorem y_put_out {x C : Int64} {k m n k' m' : Nat} (hn : n < 2 ^ m) (hm : m ≤ 30) (hC : C.toBitVec.toNat = 2 ^ m - 1) (hk : k < 64) (hk' : k' + m' ≤ 64) (h : k' + m' ≤ k ∨ k + m ≤ k') : y_bt (y_put x C (nI k) (nI n)) k' m' = y_bt x k' m' := by
  have hn31 : n < 2 ^ 31 := Nat.lt_of_lt_of_le hn (Nat.pow_le_pow_right (by omega) (by omega))
  apply Nat.eq_of_testBit_eq
  intro i
  rw [y_bt_bit, y_bt_bit]
  by_cases hi : i < m'
  · rw [y_put_bit hk hn31 hC (by omega), decide_eq_true hi]
    rcases h with h | h
    · rw [decide_eq_false (show ¬ k ≤ k' + i by omega)]
      simp
    · rw [decide_eq_false (show ¬ k' + i - k < m by omega), Nat.testBit_lt_two_pow (show n < 2 ^ (k' + i - k) from Nat.lt_of_lt_of_le hn (Nat.pow_le_pow_right (by omega) (by omega)))]
      simp
  · rw [decide_eq_false hi]
    simp
