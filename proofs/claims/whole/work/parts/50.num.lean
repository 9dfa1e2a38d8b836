/-! NUMBERS: what the machine's operations are on small whole numbers -/
theorem ofN32 {n : Nat} (h : n < 2147483648) : (Int32.ofInt (n : Int)).toBitVec.toNat = n := by
  have : (Int32.ofInt (n : Int)).toBitVec = BitVec.ofInt 32 n := rfl
  rw [this, BitVec.toNat_ofInt]
  omega
theorem toI_of {x : Int32} {n : Nat} (hn : n < 2147483648) (h : x.toBitVec.toNat = n) : x.toInt = n := by
  show x.toBitVec.toInt = n
  rw [BitVec.toInt_eq_toNat_of_lt (by rw [h]; omega), h]
theorem b_and {a b : Nat} (ha : a < 2147483648) (hb : b < 2147483648) : iAnd a b = ((a &&& b : Nat) : Int) := by
  unfold iAnd
  refine toI_of (Nat.lt_of_le_of_lt Nat.and_le_left ha) ?_
  rw [Int32.toBitVec_and, BitVec.toNat_and, ofN32 ha, ofN32 hb]
theorem b_or {a b : Nat} (ha : a < 2147483648) (hb : b < 2147483648) : iOr a b = ((a ||| b : Nat) : Int) := by
  unfold iOr
  refine toI_of (Nat.or_lt_two_pow (n := 31) ha hb) ?_
  rw [Int32.toBitVec_or, BitVec.toNat_or, ofN32 ha, ofN32 hb]
theorem b_sh5 : ∀ k : Nat, k < 32 → ((Int32.ofInt (k : Int) &&& 31).toBitVec.smod 32).toNat = k := by decide +kernel
theorem b_shl {a k : Nat} (hk : k < 31) (h : a * 2 ^ k < 2147483648) : iShl a k = ((a * 2 ^ k : Nat) : Int) := by
  unfold iShl
  refine toI_of h ?_
  have ha : a < 2147483648 := Nat.lt_of_le_of_lt (Nat.le_mul_of_pos_right a (Nat.two_pow_pos k)) h
  rw [pk_shl _ _ k (b_sh5 k (by omega)), ofN32 ha, Nat.mod_eq_of_lt (by omega)]
theorem b_one {k : Nat} (hk : k < 31) : iShl 1 k = ((2 ^ k : Nat) : Int) := by
  have h : 2 ^ k < 2 ^ 31 := Nat.pow_lt_pow_right (by omega) hk
  have := b_shl (a := 1) hk (by omega)
  rw [Nat.one_mul] at this
  exact this
theorem b_shr {a k : Nat} (ha : a < 2147483648) (hk : k < 32) : iShr a k = ((a / 2 ^ k : Nat) : Int) := by
  unfold iShr
  rw [pk_shr _ _ k (b_sh5 k hk)]
  have e : (Int32.ofInt (a : Int)).toInt = a := ofR (by omega)
  rw [e, Int.shiftRight_eq_div_pow]
  norm_cast
theorem b_bit {a k : Nat} (ha : a < 2147483648) (hk : k < 32) : iAnd (iShr a k) 1 = if a.testBit k then 1 else 0 := by
  rw [b_shr ha hk]
  have h1 : a / 2 ^ k < 2147483648 := Nat.lt_of_le_of_lt (Nat.div_le_self _ _) ha
  have := b_and (a := a / 2 ^ k) (b := 1) h1 (by omega)
  rw [show ((1 : Nat) : Int) = 1 from rfl] at this
  rw [this, Nat.and_one_is_mod, Nat.testBit_eq_decide_div_mod_eq]
  by_cases h : a / 2 ^ k % 2 = 1
  · simp [h]
  · have : a / 2 ^ k % 2 = 0 := by omega
    simp [this]
theorem b_div {a b : Int} (ha : 0 ≤ a) (ha2 : a < 2147483648) (hb : 0 < b) (hb2 : b < 2147483648) : iDiv a b = a / b := by
  unfold iDiv
  rw [Int32.toInt_div, ofR (by omega), ofR (by omega), Int.tdiv_eq_ediv_of_nonneg ha]
  have h1 : 0 ≤ a / b := Int.ediv_nonneg ha (by omega)
  have h2 : a / b ≤ a := Int.ediv_le_self b ha
  exact Int.bmod_eq_of_le (by omega) (by omega)
theorem b_rem {a b : Int} (ha : 0 ≤ a) (ha2 : a < 2147483648) (hb : 0 < b) (hb2 : b < 2147483648) : iRem a b = a % b := by
  have hd := b_div ha ha2 hb hb2
  unfold iDiv at hd
  unfold iRem
  have e : Int32.ofInt a / Int32.ofInt b = Int32.ofInt (a / b) := by rw [← hd, Int32.ofInt_toInt]
  rw [e, o_mul, o_sub]
  have h1 : a - a / b * b = a % b := by rw [Int.mul_comm]; have := Int.emod_def a b; omega
  rw [h1]
  have h2 := Int.emod_nonneg a (show b ≠ 0 by omega)
  have h3 := Int.emod_lt_of_pos a hb
  exact ofR (by omega)
/-- the bits of a set -/
def popc (n : Nat) : Nat → Nat
  | 0 => 0
  | k + 1 => popc n k + (if n.testBit k then 1 else 0)
