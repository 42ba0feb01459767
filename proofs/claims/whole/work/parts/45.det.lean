-- DETERMINANTS, as far as elimination without fractions wants them
def sumI (f : Nat → Int) : Nat → Int
  | 0 => 0
  | n + 1 => sumI f n + f n
theorem sumI_congr {f g : Nat → Int} : ∀ {n : Nat}, (∀ j, j < n → f j = g j) → sumI f n = sumI g n := by
  intro n
  induction n with
  | zero => intro _; rfl
  | succ n ih => intro h; show sumI f n + f n = sumI g n + g n; rw [ih (fun j hj => h j (Nat.lt_succ_of_lt hj)), h n (Nat.lt_succ_self n)]
theorem sumI_add (f g : Nat → Int) : ∀ n, sumI (fun j => f j + g j) n = sumI f n + sumI g n := by
  intro n
  induction n with
  | zero => rfl
  | succ n ih => show sumI (fun j => f j + g j) n + (f n + g n) = sumI f n + f n + (sumI g n + g n); rw [ih]; omega
theorem sumI_mul (x : Int) (f : Nat → Int) : ∀ n, sumI (fun j => x * f j) n = x * sumI f n := by
  intro n
  induction n with
  | zero => exact (Int.mul_zero x).symm
  | succ n ih => show sumI (fun j => x * f j) n + x * f n = x * (sumI f n + f n); rw [ih, Int.mul_add]
theorem sumI_zero : ∀ n, sumI (fun _ => 0) n = 0 := by
  intro n
  induction n with
  | zero => rfl
  | succ n ih => show sumI (fun _ => 0) n + 0 = 0; rw [ih]; rfl
theorem sumI_one {f : Nat → Int} {k : Nat} : ∀ {n : Nat}, k < n → (∀ j, j < n → j ≠ k → f j = 0) → sumI f n = f k := by
  intro n
  induction n with
  | zero => intro h; omega
  | succ n ih =>
    intro hk h
    show sumI f n + f n = f k
    by_cases e : k = n
    · subst e
      rw [sumI_congr (g := fun _ => 0) (fun j hj => h j (by omega) (by omega)), sumI_zero]; omega
    · rw [ih (by omega) (fun j hj hne => h j (by omega) hne), h n (by omega) (fun q => e q.symm)]; omega
theorem sumI_two {f : Nat → Int} {k l : Nat} : ∀ {n : Nat}, k < n → l < n → k ≠ l → (∀ j, j < n → j ≠ k → j ≠ l → f j = 0) → sumI f n = f k + f l := by
  intro n
  induction n with
  | zero => intro h; omega
  | succ n ih =>
    intro hk hl hne h
    show sumI f n + f n = f k + f l
    by_cases e : k = n
    · subst e
      rw [sumI_one (k := l) (by omega) (fun j hj h2 => h j (by omega) (by omega) h2)]; omega
    · by_cases e2 : l = n
      · subst e2
        rw [sumI_one (k := k) (by omega) (fun j hj h2 => h j (by omega) h2 (by omega))]
      · rw [ih (by omega) (by omega) hne (fun j hj h1 h2 => h j (by omega) h1 h2), h n (by omega) (fun q => e q.symm) (fun q => e2 q.symm)]; omega
def sgn (j : Nat) : Int := if j % 2 = 0 then 1 else -1
def skp (j k : Nat) : Nat := if k < j then k else k + 1
/-- of n columns, with the top row first -/
def dt : Nat → (Nat → Nat → Int) → Int
  | 0, _ => 1
  | n + 1, c => sumI (fun j => sgn j * c j 0 * dt n (fun k i => c (skp j k) (i + 1))) (n + 1)
def upc (c : Nat → Nat → Int) (l : Nat) (u : Nat → Int) : Nat → Nat → Int := fun j => if j = l then u else c j
theorem dt_congr : ∀ (n : Nat) {c c' : Nat → Nat → Int}, (∀ j i, j < n → i < n → c j i = c' j i) → dt n c = dt n c' := by
  intro n
  induction n with
  | zero => intro c c' _; rfl
  | succ n ih =>
    intro c c' h
    refine sumI_congr (fun j hj => ?_)
    rw [h j 0 hj (Nat.succ_pos n), ih (fun k i hk hi => h (skp j k) (i + 1) (by unfold skp; split <;> omega) (by omega))]
theorem dt_lin : ∀ (n : Nat) (c : Nat → Nat → Int) (l : Nat) (x y : Int) (u v : Nat → Int), l < n → dt n (upc c l (fun i => x * u i + y * v i)) = x * dt n (upc c l u) + y * dt n (upc c l v) := by
  intro n
  induction n with
  | zero => intro c l x y u v h; omega
  | succ n ih =>
    intro c l x y u v hl
    show sumI _ (n + 1) = x * sumI _ (n + 1) + y * sumI _ (n + 1)
    rw [← sumI_mul, ← sumI_mul, ← sumI_add]
    refine sumI_congr (fun j hj => ?_)
    by_cases e : j = l
    · subst e
      have hm : ∀ w : Nat → Int, dt n (fun k i => upc c j w (skp j k) (i + 1)) = dt n (fun k i => c (skp j k) (i + 1)) := fun w => dt_congr n (fun k i hk hi => by
        unfold upc
        rw [if_neg (by unfold skp; split <;> omega)])
      rw [hm, hm, hm]
      simp only [upc, if_true]
      grind
    · have hsk : ∃ l', l' < n ∧ ∀ k, skp j k = l ↔ k = l' := by
        by_cases g : l < j
        · exact ⟨l, by omega, fun k => by unfold skp; split <;> omega⟩
        · exact ⟨l - 1, by omega, fun k => by unfold skp; split <;> omega⟩
      obtain ⟨l', h1, h2⟩ := hsk
      have hm : ∀ w : Nat → Int, dt n (fun k i => upc c l w (skp j k) (i + 1)) = dt n (upc (fun k i => c (skp j k) (i + 1)) l' (fun i => w (i + 1))) := fun w => dt_congr n (fun k i hk hi => by
        unfold upc
        by_cases q : k = l'
        · rw [if_pos ((h2 k).mpr q), if_pos q]
        · rw [if_neg (fun z => q ((h2 k).mp z)), if_neg q])
      rw [hm, hm, hm]
      have := ih (fun k i => c (skp j k) (i + 1)) l' x y (fun i => u (i + 1)) (fun i => v (i + 1)) h1
      rw [this]
      simp only [upc, if_neg e]
      grind
/-- two neighbours changed -/
def swp (t j : Nat) : Nat := if j = t then t + 1 else if j = t + 1 then t else j
theorem sgn_s (j : Nat) : sgn (j + 1) = - sgn j := by
  unfold sgn
  by_cases h : j % 2 = 0
  · rw [if_pos h, if_neg (by omega)]
  · rw [if_neg h, if_pos (by omega)]; rfl
theorem sumI_swap {f : Nat → Int} {t : Nat} : ∀ {n : Nat}, t + 1 < n → sumI (fun j => f (swp t j)) n = sumI f n := by
  intro n
  induction n with
  | zero => intro h; omega
  | succ n ih =>
    intro h
    show sumI (fun j => f (swp t j)) n + f (swp t n) = sumI f n + f n
    by_cases e : t + 1 = n
    · subst e
      show sumI (fun j => f (swp t j)) t + f (swp t t) + f (swp t (t + 1)) = sumI f t + f t + f (t + 1)
      have h1 : sumI (fun j => f (swp t j)) t = sumI f t := sumI_congr (fun j hj => by
        show f (swp t j) = f j
        unfold swp; rw [if_neg (by omega), if_neg (by omega)])
      rw [h1, show swp t t = t + 1 from if_pos rfl, show swp t (t + 1) = t by unfold swp; rw [if_neg (by omega), if_pos rfl]]
      omega
    · rw [ih (by omega), show swp t n = n by unfold swp; rw [if_neg (by omega), if_neg (by omega)]]
theorem dt_swap : ∀ (n : Nat) (c : Nat → Nat → Int) (t : Nat), t + 1 < n → dt n (fun j => c (swp t j)) = - dt n c := by
  intro n
  induction n with
  | zero => intro c t h; omega
  | succ n ih =>
    intro c t ht
    show sumI _ (n + 1) = - sumI _ (n + 1)
    rw [← sumI_swap (f := fun j => sgn j * c j 0 * dt n (fun k i => c (skp j k) (i + 1))) (t := t) ht]
    rw [show - sumI (fun j => (fun j => sgn j * c j 0 * dt n (fun k i => c (skp j k) (i + 1))) (swp t j)) (n + 1) = (-1) * sumI (fun j => (fun j => sgn j * c j 0 * dt n (fun k i => c (skp j k) (i + 1))) (swp t j)) (n + 1) by omega, ← sumI_mul]
    refine sumI_congr (fun j hj => ?_)
    show sgn j * c (swp t j) 0 * dt n (fun k i => c (swp t (skp j k)) (i + 1)) = -1 * (sgn (swp t j) * c (swp t j) 0 * dt n (fun k i => c (skp (swp t j) k) (i + 1)))
    by_cases e1 : j = t
    · subst e1
      have hs : swp j j = j + 1 := if_pos rfl
      have hd : dt n (fun k i => c (swp j (skp j k)) (i + 1)) = dt n (fun k i => c (skp (swp j j) k) (i + 1)) := dt_congr n (fun k i hk hi => by
        rw [hs]
        congr 1
        unfold swp skp
        by_cases g : k < j
        · simp [g, show ¬ k = j by omega, show ¬ k = j + 1 by omega, show k < j + 1 by omega]
        · by_cases g2 : k = j
          · subst g2; simp
          · simp [g, show ¬ k + 1 = j by omega, g2, show ¬ k < j + 1 by omega])
      rw [hd, hs, sgn_s]
      grind
    · by_cases e2 : j = t + 1
      · subst e2
        have hs : swp t (t + 1) = t := by unfold swp; rw [if_neg (by omega), if_pos rfl]
        have hd : dt n (fun k i => c (swp t (skp (t + 1) k)) (i + 1)) = dt n (fun k i => c (skp (swp t (t + 1)) k) (i + 1)) := dt_congr n (fun k i hk hi => by
          rw [hs]
          congr 1
          unfold swp skp
          by_cases g : k < t
          · simp [g, show ¬ k = t by omega, show ¬ k = t + 1 by omega, show k < t + 1 by omega]
          · by_cases g2 : k = t
            · subst g2; simp
            · simp [g, show ¬ k + 1 = t by omega, g2, show ¬ k < t + 1 by omega])
        rw [hd, hs, sgn_s]
        grind
      · have hs : swp t j = j := by unfold swp; rw [if_neg e1, if_neg e2]
        have hx : ∃ t', t' + 1 < n ∧ ∀ k, swp t (skp j k) = skp j (swp t' k) := by
          by_cases g : j < t
          · refine ⟨t - 1, by omega, fun k => ?_⟩
            unfold swp skp
            by_cases k1 : k < j
            · simp [k1, show ¬ k = t by omega, show ¬ k = t + 1 by omega, show ¬ k = t - 1 by omega, show ¬ k = t - 1 + 1 by omega]
            · by_cases k2 : k = t - 1
              · subst k2; simp [k1, show t - 1 + 1 = t by omega, show ¬ t < j by omega]
              · by_cases k3 : k = t
                · subst k3; simp [k1, k2, show k - 1 + 1 = k by omega]; omega
                · simp [k1, k2, show ¬ k + 1 = t by omega, show ¬ k = t - 1 + 1 by omega, k3]
          · refine ⟨t, by omega, fun k => ?_⟩
            unfold swp skp
            by_cases k1 : k < j
            · by_cases k2 : k = t
              · subst k2; simp [k1, show k + 1 < j by omega]
              · by_cases k3 : k = t + 1
                · subst k3; simp [k1]; omega
                · simp [k1, k2, k3]
            · simp [k1, show ¬ k + 1 = t by omega, show ¬ k = t by omega, show ¬ k = t + 1 by omega]
        obtain ⟨t', h1, h2⟩ := hx
        have hd : dt n (fun k i => c (swp t (skp j k)) (i + 1)) = - dt n (fun k i => c (skp j k) (i + 1)) := by
          rw [← ih (fun k i => c (skp j k) (i + 1)) t' h1]
          exact dt_congr n (fun k i _ _ => by rw [h2 k])
        rw [hd, hs]
        grind
theorem dt_eq {n : Nat} : ∀ (d : Nat) (c : Nat → Nat → Int) (a b : Nat), b = a + 1 + d → b < n → (∀ i, i < n → c a i = c b i) → dt n c = 0 := by
  intro d
  induction d with
  | zero =>
    intro c a b hb hn h
    have h1 := dt_swap n c a (by omega)
    have h2 : dt n (fun j => c (swp a j)) = dt n c := dt_congr n (fun j i hj hi => by
      unfold swp
      by_cases e1 : j = a
      · subst e1; rw [if_pos rfl]; rw [show j + 1 = b by omega]; exact (h i hi).symm
      · rw [if_neg e1]
        by_cases e2 : j = a + 1
        · rw [if_pos e2, e2, show a + 1 = b by omega]; exact h i hi
        · rw [if_neg e2])
    omega
  | succ d ih =>
    intro c a b hb hn h
    have h1 := dt_swap n c (b - 1) (by omega)
    have h2 := ih (fun j => c (swp (b - 1) j)) a (b - 1) (by omega) (by omega) (fun i hi => by
      show c (swp (b - 1) a) i = c (swp (b - 1) (b - 1)) i
      unfold swp
      rw [if_neg (by omega), if_neg (by omega), if_pos rfl, show b - 1 + 1 = b by omega]
      exact h i hi)
    omega
theorem dt_same {n : Nat} {c : Nat → Nat → Int} {a b : Nat} (ha : a < n) (hb : b < n) (hne : a ≠ b) (h : ∀ i, i < n → c a i = c b i) : dt n c = 0 := by
  rcases Nat.lt_or_gt_of_ne hne with g | g
  · exact dt_eq (b - a - 1) c a b (by omega) hb h
  · exact dt_eq (a - b - 1) c b a (by omega) ha (fun i hi => (h i hi).symm)
/-- the columns of one -/
def e1c (j i : Nat) : Int := if i = j then 1 else 0
theorem dt_one : ∀ n, dt n e1c = 1 := by
  intro n
  induction n with
  | zero => rfl
  | succ n ih =>
    show sumI _ (n + 1) = 1
    rw [sumI_one (k := 0) (Nat.succ_pos n) (fun j hj hne => by
      have : e1c j 0 = 0 := if_neg (fun q => hne q.symm)
      rw [this]; simp)]
    have hd : dt n (fun k i => e1c (skp 0 k) (i + 1)) = dt n e1c := dt_congr n (fun k i _ _ => by
      unfold e1c skp
      simp)
    rw [hd, ih]
    rfl
/-- two columns changed -/
theorem dt_tr {n : Nat} {c : Nat → Nat → Int} {a b : Nat} (ha : a < n) (hb : b < n) (hne : a ≠ b) (u v : Nat → Int) : dt n (upc (upc c a u) b v) = - dt n (upc (upc c a v) b u) := by
  have hz : ∀ w : Nat → Int, dt n (upc (upc c a w) b w) = 0 := fun w => dt_same ha hb hne (fun i _ => by
    unfold upc; rw [if_neg hne, if_pos rfl, if_pos rfl])
  have h0 := hz (fun i => 1 * u i + 1 * v i)
  rw [dt_lin n _ b 1 1 u v hb] at h0
  have hc : ∀ w : Nat → Int, dt n (upc (upc c a (fun i => 1 * u i + 1 * v i)) b w) = 1 * dt n (upc (upc c a u) b w) + 1 * dt n (upc (upc c a v) b w) := fun w => by
    have hsw : ∀ x : Nat → Int, dt n (upc (upc c a x) b w) = dt n (upc (upc c b w) a x) := fun x => dt_congr n (fun j i _ _ => by
      unfold upc
      by_cases q1 : j = a
      · subst q1; simp [hne]
      · by_cases q2 : j = b
        · rw [if_pos q2, if_neg q1, if_pos q2]
        · rw [if_neg q2, if_neg q1, if_neg q1, if_neg q2])
    rw [hsw, hsw, hsw]
    exact dt_lin n _ a 1 1 u v ha
  rw [hc, hc, hz u, hz v] at h0
  omega
