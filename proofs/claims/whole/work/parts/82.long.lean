/-! TAX of all HOUSES in one long -/
theorem ofN64 {n : Nat} (h : n < 9223372036854775808) : (Int64.ofInt (n : Int)).toBitVec.toNat = n := by
  have : (Int64.ofInt (n : Int)).toBitVec = BitVec.ofInt 64 n := rfl
  rw [this, BitVec.toNat_ofInt]
  omega
theorem toL_of {x : Int64} {n : Nat} (hn : n < 9223372036854775808) (h : x.toBitVec.toNat = n) : x.toInt = n := by
  show x.toBitVec.toInt = n
  rw [BitVec.toInt_eq_toNat_of_lt (by rw [h]; omega), h]
theorem l_shl {n : Nat} (h : n < 72057594037927936) : lShl (n : Int) 7 = ((n * 128 : Nat) : Int) := by
  unfold lShl
  refine toL_of (by omega) ?_
  show ((Int64.ofInt (n : Int)).toBitVec <<< (((Int32.ofInt 7).toInt64 &&& 63).toBitVec.smod 64).toNat).toNat = _
  have e : (((Int32.ofInt 7).toInt64 &&& 63).toBitVec.smod 64).toNat = 7 := by decide
  rw [e, BitVec.toNat_shiftLeft, ofN64 (by omega), Nat.shiftLeft_eq]
  omega
theorem l_or {a t : Nat} (ha : a < 72057594037927936) (ht : t < 128) : lOr ((a * 128 : Nat) : Int) (t : Int) = ((a * 128 + t : Nat) : Int) := by
  unfold lOr
  refine toL_of (by omega) ?_
  rw [Int64.toBitVec_or, BitVec.toNat_or, ofN64 (by omega), ofN64 (by omega)]
  have := Nat.two_pow_add_eq_or_of_lt (i := 7) (b := t) (by omega) a
  rw [show (2 : Nat) ^ 7 * a = a * 128 by omega] at this
  exact this.symm
theorem sh7 : ∀ h : Nat, h < 7 → (((Int32.ofInt ((h : Int) * 7)).toInt64 &&& 63).toBitVec.smod 64).toNat = 7 * h := by decide
theorem l_shr {n h : Nat} (hn : n < 9223372036854775808) (hh : h < 7) : lShr (n : Int) ((h : Int) * 7) = ((n / 2 ^ (7 * h) : Nat) : Int) := by
  unfold lShr
  show ((Int64.ofInt (n : Int)).toBitVec.sshiftRight (((Int32.ofInt ((h : Int) * 7)).toInt64 &&& 63).toBitVec.smod 64).toNat).toInt = _
  rw [sh7 h hh, BitVec.toInt_sshiftRight]
  have e : (Int64.ofInt (n : Int)).toBitVec.toInt = n := ofL (by omega)
  rw [e, Int.shiftRight_eq_div_pow]
  norm_cast
theorem l_low {n : Nat} (hn : n < 9223372036854775808) : iAnd (iL2i (n : Int)) 127 = ((n % 128 : Nat) : Int) := by
  unfold iAnd iL2i
  rw [o_t]
  refine toI_of (by omega) ?_
  rw [Int32.toBitVec_and, BitVec.toNat_and]
  have e : (Int64.ofInt (n : Int)).toInt32.toBitVec.toNat = n % 4294967296 := by
    show ((Int64.ofInt (n : Int)).toBitVec.signExtend 32).toNat = _
    rw [BitVec.signExtend_eq_setWidth_of_le _ (by omega), BitVec.toNat_setWidth, ofN64 hn]
  rw [e]
  have e2 : (Int32.ofInt 127).toBitVec.toNat = 2 ^ 7 - 1 := by decide
  rw [e2, Nat.and_two_pow_sub_one_eq_mod]
  omega
theorem l_cmp {a b : Nat} (ha : a < 9223372036854775808) (hb : b < 9223372036854775808) : InR (lCmp (a : Int) (b : Int)) ∧ (lCmp (a : Int) (b : Int) = 0 ↔ a = b) := by
  unfold lCmp
  have e1 : (Int64.ofInt (a : Int)).toInt = a := ofL (by omega)
  have e2 : (Int64.ofInt (b : Int)).toInt = b := ofL (by omega)
  by_cases c : Int64.ofInt (a : Int) < Int64.ofInt (b : Int)
  · rw [if_pos c]
    have c2 : (Int64.ofInt (a : Int)).toInt < (Int64.ofInt (b : Int)).toInt := Int64.lt_iff_toInt_lt.mp c
    rw [e1, e2] at c2
    omega
  · rw [if_neg c]
    by_cases d : Int64.ofInt (a : Int) = Int64.ofInt (b : Int)
    · rw [if_pos d]
      have := congrArg Int64.toInt d
      rw [e1, e2] at this
      omega
    · rw [if_neg d]
      refine ⟨by omega, fun x => by omega, fun x => absurd (by rw [x]) d⟩
/-- d numbers from the n-th down, each of 7 bits -/
def pkD (t : Nat → Nat) (n : Nat) : Nat → Nat
  | 0 => 0
  | d + 1 => pkD t n d * 128 + t (n - 1 - d)
theorem pkD_lt {t : Nat → Nat} {n : Nat} (ht : ∀ h : Nat, t h < 128) : ∀ d : Nat, pkD t n d < 128 ^ d
  | 0 => by unfold pkD; omega
  | d + 1 => by
    have a := pkD_lt (n := n) ht d
    have b := ht (n - 1 - d)
    unfold pkD
    rw [Nat.pow_succ]
    omega
theorem pkD_at {t : Nat → Nat} {n : Nat} (ht : ∀ h : Nat, t h < 128) : ∀ (d i : Nat), i < d → d ≤ n → pkD t n d / 128 ^ i % 128 = t (n - d + i)
  | 0 => fun i hi _ => absurd hi (by omega)
  | d + 1 => fun i hi hd => by
    have b := ht (n - 1 - d)
    unfold pkD
    cases i with
    | zero =>
      rw [Nat.pow_zero, Nat.div_one, show n - (d + 1) + 0 = n - 1 - d by omega]
      omega
    | succ i =>
      have a := pkD_at ht d i (Nat.lt_of_succ_lt_succ hi) (Nat.le_of_succ_le hd)
      rw [show n - (d + 1) + (i + 1) = n - d + i by omega, ← a, Nat.pow_succ, Nat.mul_comm (128 ^ i) 128, ← Nat.div_div_eq_div_mul]
      rw [show (pkD t n d * 128 + t (n - 1 - d)) / 128 = pkD t n d by omega]
def pk (t : Nat → Nat) (n : Nat) : Nat := pkD t n n
theorem pkN_lt {t : Nat → Nat} {n : Nat} (ht : ∀ h : Nat, t h < 128) (hn : n ≤ 7) : pk t n < 562949953421312 := by
  have a := pkD_lt (n := n) ht n
  have b : 128 ^ n ≤ 128 ^ 7 := Nat.pow_le_pow_right (by omega) hn
  unfold pk
  omega
theorem pkN_at {t : Nat → Nat} {n : Nat} (ht : ∀ h : Nat, t h < 128) {i : Nat} (hi : i < n) : pk t n / 2 ^ (7 * i) % 128 = t i := by
  have a := pkD_at (n := n) ht n i hi (Nat.le_refl _)
  rw [show n - n + i = i by omega] at a
  rw [Nat.pow_mul]
  exact a
theorem pkN_inj {t u : Nat → Nat} {n : Nat} (ht : ∀ h : Nat, t h < 128) (hu : ∀ h : Nat, u h < 128) : pk t n = pk u n ↔ ∀ i : Nat, i < n → t i = u i := by
  constructor
  · intro e i hi
    rw [← pkN_at ht hi, ← pkN_at hu hi, e]
  · intro e
    unfold pk
    have : ∀ d : Nat, d ≤ n → pkD t n d = pkD u n d := by
      intro d
      induction d with
      | zero => intro _; rfl
      | succ d ih =>
        intro hd
        unfold pkD
        rw [ih (by omega), e (n - 1 - d) (by omega)]
    exact this n (Nat.le_refl _)
