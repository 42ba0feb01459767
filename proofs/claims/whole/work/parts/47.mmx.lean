-- SIGNS AND BOUNDS: columns with ten on the diagonal, nothing above nought beside, no more than ten handed on
def skI (k : Nat) (f : Nat → Int) (n : Nat) : Int := sumI (fun l => if k ≤ l then f l else 0) n
theorem sumI_nn {f : Nat → Int} : ∀ {n : Nat}, (∀ j, j < n → 0 ≤ f j) → 0 ≤ sumI f n := by
  intro n
  induction n with
  | zero => intro _; exact Int.le_refl 0
  | succ n ih => intro h; have h1 := ih (fun j hj => h j (by omega)); have h2 := h n (by omega); show 0 ≤ sumI f n + f n; omega
theorem sumI_le {f g : Nat → Int} : ∀ {n : Nat}, (∀ j, j < n → f j ≤ g j) → sumI f n ≤ sumI g n := by
  intro n
  induction n with
  | zero => intro _; exact Int.le_refl 0
  | succ n ih => intro h; have h1 := ih (fun j hj => h j (by omega)); have h2 := h n (by omega); show sumI f n + f n ≤ sumI g n + g n; omega
/-- one item is no more than the sum, where none is below nought -/
theorem sumI_item {f : Nat → Int} {n k : Nat} (hk : k < n) (h : ∀ j, j < n → 0 ≤ f j) : f k ≤ sumI f n := by
  have h1 := sumI_le (f := fun j => if j = k then f k else 0) (g := f) (n := n) (fun j hj => by by_cases q : j = k <;> simp [q]; exact h j hj)
  rw [sumI_one (k := k) hk (fun j _ hne => if_neg hne)] at h1
  simpa using h1
/-- a sum of none below nought that is nought -/
theorem sumI_z {f : Nat → Int} {n : Nat} (h : ∀ j, j < n → 0 ≤ f j) (hs : sumI f n ≤ 0) : ∀ j, j < n → f j = 0 := fun j hj => by
  have := sumI_item hj h
  have := h j hj
  omega
theorem skI_s {k n : Nat} (f : Nat → Int) (hk : k < n) : skI k f n = f k + skI (k + 1) f n := by
  unfold skI
  have : sumI (fun l => if k ≤ l then f l else 0) n = sumI (fun l => (if l = k then f k else 0) + (if k + 1 ≤ l then f l else 0)) n := sumI_congr (fun j _ => by
    by_cases q : j = k
    · subst q; simp [show ¬ j + 1 ≤ j by omega]
    · by_cases q2 : k ≤ j
      · simp [q, q2, show k + 1 ≤ j by omega]
      · simp [q, q2, show ¬ k + 1 ≤ j by omega])
  rw [this, sumI_add, sumI_one (k := k) hk (fun j _ hne => if_neg hne)]
  simp
theorem skI_0 (f : Nat → Int) (n : Nat) : skI 0 f n = sumI f n := sumI_congr (fun j _ => if_pos (Nat.zero_le j))
theorem skI_nn {k n : Nat} {f : Nat → Int} (h : ∀ j, k ≤ j → j < n → 0 ≤ f j) : 0 ≤ skI k f n := sumI_nn (fun j hj => by by_cases q : k ≤ j <;> simp [q]; exact h j q hj)
theorem skI_np {k n : Nat} {f : Nat → Int} (h : ∀ j, k ≤ j → j < n → f j ≤ 0) : skI k f n ≤ 0 := by
  have h1 := sumI_le (f := fun l => if k ≤ l then f l else 0) (g := fun _ => 0) (n := n) (fun j hj => by by_cases q : k ≤ j <;> simp [q]; exact h j q hj)
  rw [sumI_zero] at h1
  exact h1
/-- x times one, less y times another -/
theorem skI_lin {k n : Nat} {f g h : Nat → Int} {x y d : Int} (e : ∀ j, k ≤ j → j < n → x * f j - g j * y = d * h j) : x * skI k f n - skI k g n * y = d * skI k h n := by
  unfold skI
  rw [← sumI_mul, ← sumI_mul, Int.mul_comm _ y, ← sumI_mul]
  have : sumI (fun j => x * if k ≤ j then f j else 0) n = sumI (fun j => (d * if k ≤ j then h j else 0) + (y * if k ≤ j then g j else 0)) n := sumI_congr (fun j hj => by
    by_cases q : k ≤ j
    · simp only [if_pos q]; have := e j q hj; rw [Int.mul_comm y]; omega
    · simp [q])
  rw [this, sumI_add]
  omega
theorem sumI_comm (f : Nat → Nat → Int) (n : Nat) : ∀ m, sumI (fun l => sumI (fun r => f l r) n) m = sumI (fun r => sumI (fun l => f l r) m) n := by
  intro m
  induction m with
  | zero => exact (sumI_zero n).symm
  | succ m ih =>
    show sumI (fun l => sumI (fun r => f l r) n) m + sumI (fun r => f m r) n = sumI (fun r => sumI (fun l => f l r) m + f m r) n
    rw [ih, sumI_add]
def mmx (n : Nat) (c : Nat → Nat → Int) (T : Int) : Prop := (∀ j, j < n → c j j = 10) ∧ (∀ j i, j < n → i < n → i ≠ j → c j i ≤ 0) ∧ (∀ j, j < n → 0 ≤ sumI (c j) n) ∧ (∀ i, i < n → 0 ≤ c n i) ∧ sumI (c n) n ≤ T ∧ 0 ≤ T ∧
  ∀ S : Nat → Prop, (∀ j, j < n → S j → sumI (c j) n = 0 ∧ ∀ r, r < n → r ≠ j → c j r < 0 → S r) → ∀ j, j < n → ¬ S j
def sgI (n : Nat) (k : Nat) (d : Int) (A : Nat → Nat → Int) (T : Int) : Prop := 0 < d ∧ d ≤ 10 ^ k ∧ (∀ l i, l < n → k ≤ i → i < n → l ≠ i → A l i ≤ 0) ∧ (∀ i, k ≤ i → i < n → A i i ≤ 10 * d ∧ 0 ≤ skI k (fun l => A l i) n) ∧
  (∀ l i, l < k → k ≤ i → i < n → 2 * (- A l i) ≤ 20 ^ k) ∧ (∀ l, l < n → 0 ≤ A l n) ∧ skI k (fun l => A l n) n ≤ T * d ∧ ∀ l, l < k → 20 * A l n ≤ T * 20 ^ k
theorem sg_0 {n : Nat} {c : Nat → Nat → Int} {T : Int} (h : mmx n c T) : sgI n 0 1 (fun l i => c i l) T := by
  obtain ⟨h1, h2, h3, h4, h5, h6, -⟩ := h
  refine ⟨by decide, by decide, fun l i hl _ hi hne => h2 i l hi hl hne, fun i _ hi => ⟨by show c i i ≤ 10 * 1; rw [h1 i hi]; decide, by rw [skI_0]; exact h3 i hi⟩, fun l i hl => by omega, fun l hl => h4 l hl, by rw [skI_0]; show sumI (c n) n ≤ _; omega, fun l hl => by omega⟩
/-- what stands at the diagonal is above nought -/
theorem sg_piv {n k : Nat} {c : Nat → Nat → Int} {d T : Int} {A : Nat → Nat → Int} (h : mmx n c T) (hs : sgI n k d A T) (he : elI n c k d A) (hk : k < n) : 0 < A k k := by
  obtain ⟨s1, s2, s3, s4, s5, s6, s7, s8⟩ := hs
  obtain ⟨h1, h2, h3, h4, h5, h6, h7⟩ := h
  have hsum := (s4 k (Nat.le_refl k) hk).2
  rw [skI_s _ hk] at hsum
  have hneg : skI (k + 1) (fun l => A l k) n ≤ 0 := skI_np (fun j hj hjn => s3 j k hjn (Nat.le_refl k) hk (by omega))
  apply Classical.byContradiction
  intro hz
  have hkk : A k k = 0 := by omega
  have hz2 : ∀ l, k ≤ l → l < n → A l k = 0 := fun l hl hln => by
    by_cases q : l = k
    · rw [q]; exact hkk
    · have h8 : sumI (fun l => if k + 1 ≤ l then - A l k else 0) n ≤ 0 := by
        have : sumI (fun l => if k + 1 ≤ l then - A l k else 0) n = - skI (k + 1) (fun l => A l k) n := by
          unfold skI
          rw [show - sumI (fun l => if k + 1 ≤ l then A l k else 0) n = (-1) * sumI (fun l => if k + 1 ≤ l then A l k else 0) n by omega, ← sumI_mul]
          exact sumI_congr (fun j _ => by by_cases q : k + 1 ≤ j <;> simp [q])
        omega
      have h9 := sumI_z (fun j hj => by
        by_cases q2 : k + 1 ≤ j
        · simp only [if_pos q2]; have := s3 j k hj (Nat.le_refl k) hk (by omega); omega
        · simp [q2]) h8 l hln
      rw [if_pos (by omega)] at h9
      omega
  -- the weights of a set from which nothing leaks
  have hy : ∀ r, r < n → sumI (fun l => (if l = k then d else if l < k then - A l k else 0) * c l r) n = 0 := fun r hr => by
    have hR := he.2.2 k r (Nat.le_refl k) (by omega) hr
    have e1 : sumI (fun l => A l k * bas c k l r) n = - sumI (fun l => (if l < k then - A l k else 0) * c l r) n := by
      rw [show - sumI (fun l => (if l < k then - A l k else 0) * c l r) n = (-1) * sumI (fun l => (if l < k then - A l k else 0) * c l r) n by omega, ← sumI_mul]
      refine sumI_congr (fun l hl => ?_)
      by_cases q : l < k
      · simp only [bas, if_pos q]; grind
      · simp [q, hz2 l (by omega) hl]
    have e2 : sumI (fun l => (if l = k then d else if l < k then - A l k else 0) * c l r) n = sumI (fun l => (if l = k then d * c k r else 0) + (if l < k then - A l k else 0) * c l r) n := sumI_congr (fun l _ => by
      by_cases q : l = k
      · subst q; simp
      · simp [q])
    rw [e2, sumI_add, sumI_one (k := k) hk (fun j _ hne => if_neg hne)]
    simp only [if_true]
    omega
  have hyn : ∀ l, l < n → 0 ≤ (if l = k then d else if l < k then - A l k else 0) := fun l hl => by
    by_cases q : l = k
    · simp only [if_pos q]; omega
    · by_cases q2 : l < k
      · simp only [if_neg q, if_pos q2]; have := s3 l k hl (Nat.le_refl k) hk q; omega
      · simp [q, q2]
  obtain ⟨y, ey⟩ : ∃ y : Nat → Int, y = fun l => if l = k then d else if l < k then - A l k else 0 := ⟨_, rfl⟩
  have hyk : y k = d := by rw [ey]; simp
  have hy2 : ∀ r, r < n → sumI (fun l => y l * c l r) n = 0 := fun r hr => by rw [ey]; exact hy r hr
  have hyn2 : ∀ l, l < n → 0 ≤ y l := fun l hl => by rw [ey]; exact hyn l hl
  clear hy hyn ey
  have hleak : ∀ l, l < n → y l * sumI (c l) n = 0 := by
    have hz3 : sumI (fun l => y l * sumI (c l) n) n = 0 := by
      have e1 : sumI (fun l => y l * sumI (c l) n) n = sumI (fun l => sumI (fun r => y l * c l r) n) n := sumI_congr (fun l _ => (sumI_mul (y l) (c l) n).symm)
      rw [e1, sumI_comm, sumI_congr (g := fun _ => 0) (fun r hr => hy2 r hr), sumI_zero]
    exact sumI_z (fun l hl => Int.mul_nonneg (hyn2 l hl) (h3 l hl)) (by omega)
  refine h7 (fun l => 0 < y l) (fun l hl hS => ⟨?_, fun r hr hne hc => ?_⟩) k hk (by rw [hyk]; exact s1)
  · rcases Int.mul_eq_zero.mp (hleak l hl) with q | q
    · omega
    · exact q
  · apply Classical.byContradiction
    intro hyr
    have hyr0 : y r = 0 := by have := hyn2 r hr; omega
    have hneg2 : ∀ j, j < n → 0 ≤ - (y j * c j r) := fun j hj => by
      by_cases q : j = r
      · subst q; rw [hyr0]; simp
      · have h8 := h2 j r hj hr (fun z => q z.symm)
        have h9 := Int.mul_nonneg (hyn2 j hj) (show 0 ≤ - c j r by omega)
        rw [Int.mul_neg] at h9
        exact h9
    have hz4 : sumI (fun j => - (y j * c j r)) n = 0 := by
      have := sumI_mul (-1) (fun j => y j * c j r) n
      rw [hy2 r hr] at this
      rw [← Int.mul_zero (-1), ← this]
      exact sumI_congr (fun j _ => by omega)
    have h10 := sumI_z hneg2 (by omega) l hl
    have h11 : y l * c l r = 0 := by omega
    rcases Int.mul_eq_zero.mp h11 with q | q <;> omega
theorem p1020 : ∀ k : Nat, (10 : Int) ^ k ≤ 20 ^ k := by
  intro k
  induction k with
  | zero => decide
  | succ k ih => rw [Int.pow_succ, Int.pow_succ]; have : (0 : Int) < 10 ^ k := Int.pow_pos (by decide); omega
theorem cancel_le {d x y : Int} (hd : 0 < d) (h : d * x ≤ d * y) : x ≤ y := Int.le_of_mul_le_mul_left h hd
theorem sg_step {n k : Nat} {c : Nat → Nat → Int} {d T : Int} {A : Nat → Nat → Int} (h : mmx n c T) (hs : sgI n k d A T) (he : elI n c k d A) (hk : k < n) : sgI n (k + 1) (A k k) (elS k d A) T := by
  have hp := sg_piv h hs he hk
  obtain ⟨s1, s2, s3, s4, s5, s6, s7, s8⟩ := hs
  have hT : 0 ≤ T := h.2.2.2.2.2.1
  have hd0 : d ≠ 0 := by omega
  have hx := (el_step he hk hd0 (by omega)).2
  have hkk : ∀ i, elS k d A k i = A k i := fun i => if_pos rfl
  -- products of two that are not above nought
  have hprod : ∀ l i, l < n → l ≠ k → k + 1 ≤ i → i < n → 0 ≤ A l k * A k i := fun l i hl hlk hi hin => by
    have a1 := s3 l k hl (Nat.le_refl k) hk hlk
    have a2 := s3 k i hk (by omega) hin (by omega)
    have := Int.mul_nonneg (show 0 ≤ - A l k by omega) (show 0 ≤ - A k i by omega)
    rwa [Int.neg_mul_neg] at this
  have hpn : ∀ l, l < n → 0 ≤ A k k * A l n := fun l hl => Int.mul_nonneg (by omega) (s6 l hl)
  have hnk : ∀ l, l < n → l ≠ k → 0 ≤ - (A l k * A k n) := fun l hl hlk => by
    have a1 := s3 l k hl (Nat.le_refl k) hk hlk
    have := Int.mul_nonneg (show 0 ≤ - A l k by omega) (s6 k hk)
    rwa [Int.neg_mul] at this
  have hpk := (s4 k (Nat.le_refl k) hk).1
  have p20 : (0 : Int) < 20 ^ k := Int.pow_pos (by decide)
  have p10 : (0 : Int) < 10 ^ k := Int.pow_pos (by decide)
  have p1020 : (10 : Int) ^ k ≤ 20 ^ k := p1020 k
  have e20 : (20 : Int) ^ (k + 1) = 20 ^ k * 20 := Int.pow_succ 20 k
  have e10 : (10 : Int) ^ (k + 1) = 10 ^ k * 10 := Int.pow_succ 10 k
  -- how little a column's item can be
  have hcol : ∀ i, k + 1 ≤ i → i < n → - A k i ≤ 10 * d := fun i hi hin => by
    obtain ⟨c1, c2⟩ := s4 i (by omega) hin
    have c3 : skI k (fun l => A l i) n ≤ A k i + A i i := by
      have c4 := sumI_le (f := fun l => if k ≤ l then A l i else 0) (g := fun l => (if l = k then A k i else 0) + (if l = i then A i i else 0)) (n := n) (fun j hj => by
        by_cases q1 : j = k
        · subst q1; simp [show ¬ j = i by omega]
        · by_cases q2 : j = i
          · subst q2; simp [q1, show k ≤ j by omega]
          · by_cases q3 : k ≤ j
            · simp only [if_pos q3, if_neg q1, if_neg q2]; have := s3 j i hj (by omega) hin q2; omega
            · simp [q3, q1, q2])
      rw [sumI_add, sumI_one (k := k) hk (fun j _ hne => if_neg hne), sumI_one (k := i) hin (fun j _ hne => if_neg hne)] at c4
      unfold skI
      simpa using c4
    omega
  refine ⟨hp, by omega, fun l i hl hi hin hne => ?_, fun i hi hin => ⟨?_, ?_⟩, fun l i hl hi hin => ?_, fun l hl => ?_, ?_, fun l hl => ?_⟩
  · by_cases q : l = k
    · rw [q, hkk]; exact s3 k i hk (by omega) hin (by omega)
    · have e1 := hx l i hl q hi (by omega)
      have e2 := hprod l i hl q hi hin
      have e3 : 0 ≤ - (A k k * A l i) := by
        have := Int.mul_nonneg (show 0 ≤ A k k by omega) (show 0 ≤ - A l i by have := s3 l i hl (by omega) hin hne; omega)
        rwa [Int.mul_neg] at this
      refine cancel_le s1 (y := 0) ?_
      rw [← e1, Int.mul_zero]; omega
  · have q : i ≠ k := by omega
    have e1 := hx i i hin q hi (by omega)
    have e2 := hprod i i hin q hi hin
    have e3 : A k k * A i i ≤ A k k * (10 * d) := Int.mul_le_mul_of_nonneg_left (s4 i (by omega) hin).1 (by omega)
    refine cancel_le s1 ?_
    rw [← e1]
    have e4 : A k k * (10 * d) = d * (10 * A k k) := by grind
    omega
  · have e1 := skI_lin (k := k + 1) (n := n) (f := fun l => A l i) (g := fun l => A l k) (h := fun l => elS k d A l i) (x := A k k) (y := A k i) (d := d) (fun j hj hjn => hx j i hjn (by omega) hi (by omega))
    obtain ⟨c1, c2⟩ := s4 i (by omega) hin
    obtain ⟨c3, c4⟩ := s4 k (Nat.le_refl k) hk
    rw [skI_s _ hk] at c2 c4
    have e2 : A k k * skI (k + 1) (fun l => A l i) n - skI (k + 1) (fun l => A l k) n * A k i = A k k * (A k i + skI (k + 1) (fun l => A l i) n) - (A k k + skI (k + 1) (fun l => A l k) n) * A k i := by grind
    have e3 := Int.mul_nonneg (show 0 ≤ A k k by omega) c2
    have e4 : 0 ≤ - ((A k k + skI (k + 1) (fun l => A l k) n) * A k i) := by
      have := Int.mul_nonneg c4 (show 0 ≤ - A k i by have := s3 k i hk (by omega) hin (by omega); omega)
      rwa [Int.mul_neg] at this
    refine cancel_le s1 (x := 0) ?_
    rw [← e1, e2, Int.mul_zero]; omega
  · by_cases q : l = k
    · rw [q, hkk]
      have := hcol i hi hin
      rw [e20]; omega
    · have hlk : l < k := by omega
      have e1 := hx l i (by omega) q hi (by omega)
      have u1 := s5 l i hlk (by omega) hin
      have u2 := s5 l k hlk (Nat.le_refl k) hk
      have a1 := s3 l i (by omega) (by omega) hin (by omega)
      have a2 := s3 l k (by omega) (Nat.le_refl k) hk q
      have a3 := s3 k i hk (by omega) hin (by omega)
      have m1 : A k k * (- A l i) ≤ (10 * d) * (- A l i) := Int.mul_le_mul_of_nonneg_right hpk (by omega)
      have m2 : (- A l k) * (- A k i) ≤ (- A l k) * (10 * d) := Int.mul_le_mul_of_nonneg_left (hcol i hi hin) (by omega)
      refine cancel_le s1 ?_
      have e2 : d * (2 * - elS k d A l i) = 2 * (A k k * (- A l i)) + 2 * ((- A l k) * (- A k i)) := by grind
      have e3 : 2 * ((10 * d) * (- A l i)) + 2 * ((- A l k) * (10 * d)) = (10 * d) * (2 * (- A l i)) + (10 * d) * (2 * (- A l k)) := by grind
      have m3 : (10 * d) * (2 * (- A l i)) ≤ (10 * d) * 20 ^ k := Int.mul_le_mul_of_nonneg_left u1 (by omega)
      have m4 : (10 * d) * (2 * (- A l k)) ≤ (10 * d) * 20 ^ k := Int.mul_le_mul_of_nonneg_left u2 (by omega)
      have e4 : (10 * d) * 20 ^ k + (10 * d) * 20 ^ k = d * 20 ^ (k + 1) := by rw [e20]; grind
      omega
  · by_cases q : l = k
    · rw [q, hkk]; exact s6 k hk
    · have e1 := hx l n hl q (by omega) (Nat.le_refl n)
      refine cancel_le s1 (x := 0) ?_
      rw [← e1, Int.mul_zero]
      have := hpn l hl
      have := hnk l hl q
      omega
  · have e1 := skI_lin (k := k + 1) (n := n) (f := fun l => A l n) (g := fun l => A l k) (h := fun l => elS k d A l n) (x := A k k) (y := A k n) (d := d) (fun j hj hjn => hx j n hjn (by omega) (by omega) (Nat.le_refl n))
    obtain ⟨c3, c4⟩ := s4 k (Nat.le_refl k) hk
    rw [skI_s _ hk] at c4 s7
    have e2 : A k k * skI (k + 1) (fun l => A l n) n - skI (k + 1) (fun l => A l k) n * A k n = A k k * (A k n + skI (k + 1) (fun l => A l n) n) - (A k k + skI (k + 1) (fun l => A l k) n) * A k n := by grind
    have e3 := Int.mul_le_mul_of_nonneg_left s7 (show 0 ≤ A k k by omega)
    have e4 := Int.mul_nonneg c4 (s6 k hk)
    have e5 : A k k * (T * d) = d * (T * A k k) := by grind
    refine cancel_le s1 ?_
    rw [← e1, e2]; omega
  · have hTk : A k n ≤ T * d := by
      rw [skI_s _ hk] at s7
      have := skI_nn (k := k + 1) (n := n) (f := fun l => A l n) (fun j _ hj => s6 j hj)
      omega
    by_cases q : l = k
    · rw [q, hkk]
      have m1 : T * d ≤ T * 10 ^ k := Int.mul_le_mul_of_nonneg_left s2 hT
      have m2 : T * 10 ^ k ≤ T * 20 ^ k := Int.mul_le_mul_of_nonneg_left p1020 hT
      have e2 : T * 20 ^ (k + 1) = 20 * (T * 20 ^ k) := by rw [e20]; grind
      omega
    · have hlk : l < k := by omega
      have e1 := hx l n (by omega) q (by omega) (Nat.le_refl n)
      have v1 := s8 l hlk
      have u2 := s5 l k hlk (Nat.le_refl k) hk
      have a2 := s3 l k (by omega) (Nat.le_refl k) hk q
      have m1 : A k k * A l n ≤ (10 * d) * A l n := Int.mul_le_mul_of_nonneg_right hpk (s6 l (by omega))
      have m2 : (- A l k) * A k n ≤ (- A l k) * (T * d) := Int.mul_le_mul_of_nonneg_left hTk (by omega)
      refine cancel_le s1 ?_
      have e2 : d * (20 * elS k d A l n) = 20 * (A k k * A l n) + 20 * ((- A l k) * A k n) := by grind
      have e3 : 20 * ((10 * d) * A l n) = (10 * d) * (20 * A l n) := by grind
      have e4 : 20 * ((- A l k) * (T * d)) = (10 * (T * d)) * (2 * (- A l k)) := by grind
      have hTd : 0 ≤ T * d := Int.mul_nonneg hT (by omega)
      have m3 : (10 * d) * (20 * A l n) ≤ (10 * d) * (T * 20 ^ k) := Int.mul_le_mul_of_nonneg_left v1 (by omega)
      have m4 : (10 * (T * d)) * (2 * (- A l k)) ≤ (10 * (T * d)) * 20 ^ k := Int.mul_le_mul_of_nonneg_left u2 (by omega)
      have e5 : (10 * d) * (T * 20 ^ k) + (10 * (T * d)) * 20 ^ k = d * (T * 20 ^ (k + 1)) := by rw [e20]; grind
      omega
