-- the whole elimination, and what it ends with
def elR (c : Nat → Nat → Int) : Nat → Int × (Nat → Nat → Int)
  | 0 => (1, fun l i => c i l)
  | k + 1 => ((elR c k).2 k k, elS k (elR c k).1 (elR c k).2)
theorem el_all {n : Nat} {c : Nat → Nat → Int} {T : Int} (h : mmx n c T) : ∀ k, k ≤ n → elI n c k (elR c k).1 (elR c k).2 ∧ sgI n k (elR c k).1 (elR c k).2 T := by
  intro k
  induction k with
  | zero => intro _; exact ⟨el_0 n c, sg_0 h⟩
  | succ k ih =>
    intro hk
    obtain ⟨h1, h2⟩ := ih (by omega)
    have hp := sg_piv h h2 h1 (by omega)
    exact ⟨(el_step h1 (by omega) (by have := h2.1; omega) (by omega)).1, sg_step h h2 h1 (by omega)⟩
theorem sg_col {n k : Nat} {d T : Int} {A : Nat → Nat → Int} (hs : sgI n k d A T) {l i : Nat} (hl : k ≤ l) (hln : l < n) (hi : k ≤ i) (hin : i < n) (hne : l ≠ i) : - A l i ≤ A i i := by
  obtain ⟨s1, s2, s3, s4, s5, s6, s7, s8⟩ := hs
  obtain ⟨c1, c2⟩ := s4 i hi hin
  have c4 := sumI_le (f := fun j => if k ≤ j then A j i else 0) (g := fun j => (if j = l then A l i else 0) + (if j = i then A i i else 0)) (n := n) (fun j hj => by
    by_cases q1 : j = l
    · subst q1; simp [hl, hne]
    · by_cases q2 : j = i
      · subst q2; simp [q1, hi]
      · by_cases q3 : k ≤ j
        · simp only [if_pos q3, if_neg q1, if_neg q2]; have := s3 j i hj hi hin q2; omega
        · simp [q3, q1, q2])
  rw [sumI_add, sumI_one (k := l) hln (fun j _ hne => if_neg hne), sumI_one (k := i) hin (fun j _ hne => if_neg hne)] at c4
  have c2' : 0 ≤ sumI (fun j => if k ≤ j then A j i else 0) n := c2
  simp at c4
  omega
theorem pw10 : ∀ k : Nat, k ≤ 8 → (10 : Int) ^ k ≤ 100000000 ∧ (20 : Int) ^ k ≤ 25600000000 := by decide
theorem pw10' : ∀ k : Nat, k ≤ 7 → (10 : Int) ^ k ≤ 10000000 := by decide
theorem sg_bound {n k : Nat} {d T : Int} {A : Nat → Nat → Int} (hs : sgI n k d A T) (hk : k ≤ 8) (hT : T ≤ 80) (hT0 : 0 ≤ T) {l i : Nat} (hl : l < n) (hi : k ≤ i) (hin : i ≤ n) : -128000000000 ≤ A l i ∧ A l i ≤ 128000000000 := by
  have hs' := hs
  obtain ⟨s1, s2, s3, s4, s5, s6, s7, s8⟩ := hs'
  obtain ⟨p1, p2⟩ := pw10 k hk
  by_cases q : i = n
  · subst q
    have h0 := s6 l hl
    by_cases q2 : l < k
    · have h1 := s8 l q2
      have h2 : T * 20 ^ k ≤ 80 * 20 ^ k := Int.mul_le_mul_of_nonneg_right hT (by have : (0 : Int) < 20 ^ k := Int.pow_pos (by decide); omega)
      omega
    · have h1 : A l i ≤ skI k (fun j => A j i) i := by
        have := sumI_item (f := fun j => if k ≤ j then A j i else 0) (n := i) hl (fun j hj => by by_cases q3 : k ≤ j <;> simp [q3]; exact s6 j hj)
        simp only [if_pos (show k ≤ l by omega)] at this
        exact this
      have h2 : T * d ≤ 80 * d := Int.mul_le_mul_of_nonneg_right hT (by omega)
      omega
  · by_cases q2 : l < k
    · have h1 := s5 l i q2 hi (by omega)
      have h2 := s3 l i hl hi (by omega) (by omega)
      omega
    · have h1 := (s4 i hi (by omega)).1
      by_cases q3 : l = i
      · subst q3
        have h2 := (s4 l hi (by omega)).2
        have h3 : 0 ≤ A l l := by
          by_cases q4 : ∃ j, k ≤ j ∧ j < n ∧ j ≠ l
          · obtain ⟨j, j1, j2, j3⟩ := q4
            have a1 := sg_col hs j1 j2 hi (by omega) j3
            have a2 := s3 j l j2 hi (by omega) j3
            omega
          · have : skI k (fun j => A j l) n = A l l := by
              unfold skI
              rw [sumI_one (k := l) hl (fun j hj hne => by
                by_cases q5 : k ≤ j
                · exact absurd ⟨j, q5, hj, hne⟩ q4
                · exact if_neg q5)]
              exact if_pos hi
            omega
        omega
      · have h2 := sg_col hs (by omega) hl hi (by omega) q3
        have h3 := s3 l i hl hi (by omega) q3
        omega
/-- what it ends with -/
theorem el_end {n : Nat} {c : Nat → Nat → Int} {T : Int} (h : mmx n c T) : 0 < (elR c n).1 ∧ (elR c n).1 ≤ 10 ^ n ∧ (∀ l, l < n → 0 ≤ (elR c n).2 l n) ∧ (∀ r, r < n → (elR c n).1 * c n r = sumI (fun l => (elR c n).2 l n * c l r) n) ∧
    ∀ l, l < n → (elR c n).2 l n * sumI (c l) n ≤ (elR c n).1 * T := by
  obtain ⟨h1, h2⟩ := el_all h n (Nat.le_refl n)
  obtain ⟨s1, s2, s3, s4, s5, s6, s7, s8⟩ := h2
  have hM : ∀ r, r < n → (elR c n).1 * c n r = sumI (fun l => (elR c n).2 l n * c l r) n := fun r hr => by
    rw [h1.2.2 n r (Nat.le_refl n) (Nat.le_refl n) hr]
    exact sumI_congr (fun l hl => by unfold bas; rw [if_pos hl])
  refine ⟨s1, s2, s6, hM, fun l hl => ?_⟩
  have e1 : sumI (fun l => (elR c n).2 l n * sumI (c l) n) n = (elR c n).1 * sumI (c n) n := by
    rw [← sumI_mul, sumI_congr (f := fun r => (elR c n).1 * c n r) hM, sumI_comm (fun r l => (elR c n).2 l n * c l r)]
    exact sumI_congr (fun l _ => (sumI_mul _ (c l) n).symm)
  have e2 := sumI_item (f := fun l => (elR c n).2 l n * sumI (c l) n) hl (fun j hj => Int.mul_nonneg (s6 j hj) (h.2.2.1 j hj))
  have e3 : (elR c n).1 * sumI (c n) n ≤ (elR c n).1 * T := Int.mul_le_mul_of_nonneg_left h.2.2.2.2.1 (by omega)
  have e2' : (elR c n).2 l n * sumI (c l) n ≤ sumI (fun l => (elR c n).2 l n * sumI (c l) n) n := e2
  omega
/-- the same system has no other end -/
theorem el_uniq {n : Nat} {c : Nat → Nat → Int} {T : Int} (h : mmx n c T) {y : Nat → Int} (hy : ∀ r, r < n → sumI (fun l => y l * c l r) n = 0) : ∀ l, l < n → y l = 0 := by
  obtain ⟨h1, h2⟩ := el_all h n (Nat.le_refl n)
  have hb : ∀ j, j < n → bas c n j = c j := fun j hj => if_pos hj
  intro l hl
  have key : ∀ m, m ≤ n → dt n (upc c l (fun r => sumI (fun q => y q * c q r) m)) = sumI (fun q => y q * dt n (upc c l (c q))) m := by
    intro m
    induction m with
    | zero =>
      intro _
      have h := dt_lin n c l 0 0 (fun _ => 0) (fun _ => 0) hl
      rw [Int.zero_mul, Int.zero_mul] at h
      exact (dt_congr n (fun j i _ _ => by unfold upc; split <;> rfl)).trans h
    | succ m ih =>
      intro hm
      show dt n (upc c l (fun r => sumI (fun q => y q * c q r) m + y m * c m r)) = sumI (fun q => y q * dt n (upc c l (c q))) m + y m * dt n (upc c l (c m))
      rw [← ih (by omega)]
      have h := dt_lin n c l 1 (y m) (fun r => sumI (fun q => y q * c q r) m) (c m) hl
      rw [Int.one_mul] at h
      rw [← h]
      exact dt_congr n (fun j i _ _ => by unfold upc; split <;> simp)
  have e1 := key n (Nat.le_refl n)
  have e2 : dt n (upc c l (fun r => sumI (fun q => y q * c q r) n)) = 0 := by
    have h := dt_lin n c l 0 0 (fun _ => 0) (fun _ => 0) hl
    rw [Int.zero_mul, Int.zero_mul] at h
    refine (dt_congr n (fun j i _ hi => ?_)).trans h
    unfold upc
    by_cases q : j = l
    · rw [if_pos q, if_pos q, hy i hi]; rfl
    · rw [if_neg q, if_neg q]
  rw [e2, sumI_one (k := l) hl (fun j hj hne => by
    rw [dt_same (a := l) (b := j) hl hj (fun z => hne z.symm) (fun i _ => by unfold upc; rw [if_pos rfl, if_neg hne])]
    exact Int.mul_zero _)] at e1
  have e3 : dt n (upc c l (c l)) = (elR c n).1 := by
    rw [h1.1]
    exact dt_congr n (fun j i hj _ => by
      unfold upc
      rw [hb j hj]
      by_cases q : j = l
      · rw [if_pos q, q]
      · rw [if_neg q])
  rw [e3] at e1
  rcases Int.mul_eq_zero.mp e1.symm with q | q
  · exact q
  · have := h2.1; omega
-- longs as whole numbers
def lZ (x : Int) : Int64 := Int64.ofInt x
theorem lZ_mul (a b : Int) : lZ a * lZ b = lZ (a * b) := (Int64.ofInt_mul a b).symm
theorem lZ_sub (a b : Int) : lZ a - lZ b = lZ (a - b) := (Int64.ofInt_sub a b).symm
theorem lZ_add (a b : Int) : lZ a + lZ b = lZ (a + b) := (Int64.ofInt_add a b).symm
theorem lZ_i {a : Int} (h1 : -9223372036854775808 ≤ a) (h2 : a < 9223372036854775808) : (lZ a).toInt = a := Int64.toInt_ofInt_of_le h1 h2
theorem lZ_div {d q : Int} (hd : 0 < d) (hd2 : d < 9223372036854775808) (h1 : -9223372036854775808 ≤ d * q) (h2 : d * q < 9223372036854775808) (h3 : -9223372036854775808 ≤ q) (h4 : q < 9223372036854775808) : lZ (d * q) / lZ d = lZ q := by
  apply Int64.toInt_inj.mp
  rw [Int64.toInt_div_of_ne_right, lZ_i h1 h2, lZ_i (by omega) hd2, lZ_i h3 h4]
  · exact Int.mul_tdiv_cancel_left _ (by omega)
  · intro q2
    have : (lZ d).toInt = (-1 : Int64).toInt := by rw [q2]
    rw [lZ_i (by omega) hd2, show (-1 : Int64).toInt = -1 by decide] at this
    omega
theorem lZ_lt {a b : Int} (a1 : -9223372036854775808 ≤ a) (a2 : a < 9223372036854775808) (b1 : -9223372036854775808 ≤ b) (b2 : b < 9223372036854775808) : lZ a < lZ b ↔ a < b := by
  rw [Int64.lt_iff_toInt_lt, lZ_i a1 a2, lZ_i b1 b2]
theorem lZ_le {a b : Int} (a1 : -9223372036854775808 ≤ a) (a2 : a < 9223372036854775808) (b1 : -9223372036854775808 ≤ b) (b2 : b < 9223372036854775808) : lZ a ≤ lZ b ↔ a ≤ b := by
  rw [Int64.le_iff_toInt_le, lZ_i a1 a2, lZ_i b1 b2]
theorem lZ_eq {a b : Int} (a1 : -9223372036854775808 ≤ a) (a2 : a < 9223372036854775808) (b1 : -9223372036854775808 ≤ b) (b2 : b < 9223372036854775808) : lZ a = lZ b ↔ a = b := by
  rw [← Int64.toInt_inj, lZ_i a1 a2, lZ_i b1 b2]
theorem lZ_0 : lZ 0 = 0 := rfl
theorem lZ_1 : lZ 1 = 1 := rfl
theorem lZ_10 : lZ 10 = 10 := rfl
theorem nI_lZ {n : Nat} (h : n < 2 ^ 31) : (nI n).toInt64 = lZ n := by
  apply Int64.toInt_inj.mp
  rw [lZ_i (by omega) (by omega), Int32.toInt_toInt64, nI_toInt h]
theorem nnI_lZ {n : Nat} (h : n < 2 ^ 31) : (-(nI n)).toInt64 = lZ (- (n : Int)) := by
  apply Int64.toInt_inj.mp
  rw [lZ_i (by omega) (by omega), Int32.toInt_toInt64]
  exact sb_negT h
