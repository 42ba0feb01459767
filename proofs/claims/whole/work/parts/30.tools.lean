-- numbers and sets
theorem tI_bv (n : Nat) : (nI n).toBitVec = BitVec.ofNat 32 n := rfl
theorem tI_and (a b : Nat) : nI a &&& nI b = nI (a &&& b) := by
  apply Int32.toBitVec_inj.mp
  show BitVec.ofNat 32 a &&& BitVec.ofNat 32 b = BitVec.ofNat 32 (a &&& b)
  apply BitVec.eq_of_getLsbD_eq
  intro i hi
  simp
theorem tI_or (a b : Nat) : nI a ||| nI b = nI (a ||| b) := by
  apply Int32.toBitVec_inj.mp
  show BitVec.ofNat 32 a ||| BitVec.ofNat 32 b = BitVec.ofNat 32 (a ||| b)
  apply BitVec.eq_of_getLsbD_eq
  intro i hi
  simp [Bool.and_or_distrib_left]
theorem tI_xor (a b : Nat) : nI a ^^^ nI b = nI (a ^^^ b) := by
  apply Int32.toBitVec_inj.mp
  show BitVec.ofNat 32 a ^^^ BitVec.ofNat 32 b = BitVec.ofNat 32 (a ^^^ b)
  apply BitVec.eq_of_getLsbD_eq
  intro i hi
  simp [hi]
theorem tI_sc : ∀ n, n < 32 → ((nI n &&& 31).toBitVec.smod 32).toNat = n := by decide
theorem tI_shl {a k : Nat} (hk : k < 32) : nI a <<< (nI k &&& 31) = nI (a * 2 ^ k) := by
  apply Int32.toBitVec_inj.mp
  apply BitVec.eq_of_toNat_eq
  rw [pk_shl _ _ k (tI_sc k hk), tI_bv, tI_bv, BitVec.toNat_ofNat, BitVec.toNat_ofNat, Nat.mod_mul_mod]
theorem tI_shr {a k : Nat} (ha : a < 2 ^ 31) (hk : k < 32) : nI a >>> (nI k &&& 31) = nI (a / 2 ^ k) := pk_shrN ha _ k (tI_sc k hk)
theorem tI_ushc : ∀ n, n < 32 → (((nI n).toUInt32 &&& Int32.toUInt32 31).toBitVec % 32).toNat = n := by decide
theorem tI_ushr {a k : Nat} (ha : a < 2 ^ 32) (hk : k < 32) : ((nI a).toUInt32 >>> ((nI k).toUInt32 &&& Int32.toUInt32 31)).toInt32 = nI (a / 2 ^ k) := pk_ushrN ha _ k (tI_ushc k hk)
theorem tI_m1 : (-1 : Int32) = nI 4294967295 := by decide
theorem tI_ge0 {a : Nat} (h : a < 2 ^ 31) : ¬ nI a < 0 := nI_pos h
theorem tI_eq {a b : Nat} (ha : a < 2 ^ 31) (hb : b < 2 ^ 31) : nI a = nI b ↔ a = b := nI_eq ha hb
theorem tI_m5 (a : Nat) (h : a < 2 ^ 31) : ¬ nI a = -5 := by
  intro e
  have : (nI a).toInt = (-5 : Int32).toInt := by rw [e]
  rw [nI_toInt h] at this
  have h5 : (-5 : Int32).toInt = -5 := by decide
  omega
/-- a set of those below n, as bits -/
def msk (p : Nat → Bool) : Nat → Nat
  | 0 => 0
  | n + 1 => msk p n + if p n then 2 ^ n else 0
theorem msk_lt (p : Nat → Bool) : ∀ n, msk p n < 2 ^ n := by
  intro n
  induction n with
  | zero => exact Nat.one_pos
  | succ n ih =>
    show msk p n + (if p n then 2 ^ n else 0) < 2 ^ (n + 1)
    rw [Nat.pow_succ]
    split <;> omega
theorem msk_bit (p : Nat → Bool) : ∀ n i, (msk p n).testBit i = (decide (i < n) && p i) := by
  intro n
  induction n with
  | zero => intro i; show Nat.testBit 0 i = _; simp
  | succ n ih =>
    intro i
    show (msk p n + (if p n then 2 ^ n else 0)).testBit i = _
    have hl := msk_lt p n
    cases hp : p n with
    | false =>
      simp only [Bool.false_eq_true, if_false, Nat.add_zero]
      rw [ih i]
      by_cases h : i < n
      · simp [h, Nat.lt_succ_of_lt h]
      · by_cases h2 : i = n
        · subst h2; simp [hp]
        · have : ¬ i < n + 1 := by omega
          simp [h, this]
    | true =>
      simp only [if_true]
      rw [Nat.add_comm]
      by_cases h : i < n
      · rw [Nat.testBit_two_pow_add_gt h, ih i]
        simp [h, Nat.lt_succ_of_lt h]
      · by_cases h2 : i = n
        · subst h2
          rw [Nat.testBit_two_pow_add_eq, ih i]
          simp [hp]
        · have h3 : ¬ i < n + 1 := by omega
          have h4 : 2 ^ n + msk p n < 2 ^ i := Nat.lt_of_lt_of_le (by rw [Nat.pow_succ]; omega) (Nat.pow_le_pow_right (n := 2) (by decide) (show n + 1 ≤ i by omega))
          rw [Nat.testBit_lt_two_pow h4]
          simp [h3]
theorem msk_ext {p q : Nat → Bool} : ∀ {n : Nat}, (∀ i, i < n → p i = q i) → msk p n = msk q n := by
  intro n
  induction n with
  | zero => intro _; rfl
  | succ n ih =>
    intro h
    show msk p n + (if p n then 2 ^ n else 0) = msk q n + (if q n then 2 ^ n else 0)
    rw [ih (fun i hi => h i (Nat.lt_succ_of_lt hi)), h n (Nat.lt_succ_self n)]
theorem msk_of {S n : Nat} (h : S < 2 ^ n) : S = msk (fun i => S.testBit i) n := by
  apply Nat.eq_of_testBit_eq
  intro i
  rw [msk_bit]
  by_cases hi : i < n
  · simp [hi]
  · have : S.testBit i = false := Nat.testBit_lt_two_pow (Nat.lt_of_lt_of_le h (Nat.pow_le_pow_right (by decide) (by omega)))
    simp [hi, this]

theorem lI (n : Nat) : (OfNat.ofNat n : Int32) = nI n := rfl
theorem tst1 (i m : Nat) : nI m * 8 + nI i = nI (m * 8 + i) := by simp only [lI, pk_mul, nI_add]
theorem tst2 (i m : Nat) : 8 * nI m + nI i = nI (8 * m + i) := by simp only [lI, pk_mul, nI_add]
theorem tst3 (i : Nat) (h : i < 8) : vp_in (nI i * 8 + 1) 64 := by simp only [lI, pk_mul, nI_add]; exact vp_in_nI (by omega) (by decide)
