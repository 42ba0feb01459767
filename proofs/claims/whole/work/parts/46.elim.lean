-- ELIMINATION WITHOUT FRACTIONS: c: the columns (c n: the right side)
def bas (c : Nat → Nat → Int) (k j : Nat) : Nat → Int := if j < k then c j else e1c j
/-- behind k steps: last = d, the numbers A (columns from k on) -/
def elI (n : Nat) (c : Nat → Nat → Int) (k : Nat) (d : Int) (A : Nat → Nat → Int) : Prop :=
  d = dt n (bas c k) ∧ (∀ l i, l < n → k ≤ i → i ≤ n → A l i = dt n (upc (bas c k) l (c i))) ∧ ∀ i r, k ≤ i → i ≤ n → r < n → d * c i r = sumI (fun l => A l i * bas c k l r) n
theorem el_0 (n : Nat) (c : Nat → Nat → Int) : elI n c 0 1 (fun l i => c i l) := by
  have hb : ∀ j, bas c 0 j = e1c j := fun j => if_neg (by omega)
  have hb' : bas c 0 = e1c := funext hb
  refine ⟨by rw [hb', dt_one], fun l i hl _ hi => ?_, fun i r _ hi hr => ?_⟩
  · -- c i = sum of its items times the columns of one
    rw [hb']
    have key : ∀ (m : Nat) (w : Nat → Int), m ≤ n → dt n (upc e1c l (fun r => sumI (fun q => w q * e1c q r) m)) = sumI (fun q => w q * dt n (upc e1c l (e1c q))) m := by
      intro m
      induction m with
      | zero =>
        intro w _
        have h := dt_lin n e1c l 0 0 (fun _ => 0) (fun _ => 0) hl
        rw [Int.zero_mul, Int.zero_mul] at h
        exact (dt_congr n (fun j i _ _ => by unfold upc; split <;> rfl)).trans h
      | succ m ih =>
        intro w hm
        show dt n (upc e1c l (fun r => sumI (fun q => w q * e1c q r) m + w m * e1c m r)) = sumI (fun q => w q * dt n (upc e1c l (e1c q))) m + w m * dt n (upc e1c l (e1c m))
        rw [← ih w (by omega)]
        have h := dt_lin n e1c l 1 (w m) (fun r => sumI (fun q => w q * e1c q r) m) (e1c m) hl
        rw [Int.one_mul] at h
        rw [← h]
        exact dt_congr n (fun j i _ _ => by unfold upc; split <;> simp)
    have h1 : dt n (upc e1c l (c i)) = dt n (upc e1c l (fun r => sumI (fun q => c i q * e1c q r) n)) := dt_congr n (fun j r _ hr => by
      unfold upc
      by_cases q : j = l
      · rw [if_pos q, if_pos q, sumI_one (k := r) hr (fun q2 _ hne => by unfold e1c; rw [if_neg (fun z => hne z.symm)]; exact Int.mul_zero _)]
        unfold e1c; simp
      · rw [if_neg q, if_neg q])
    rw [h1, key n (c i) (Nat.le_refl n), sumI_one (k := l) hl (fun q2 h2 hne => by
      rw [dt_same (a := l) (b := q2) hl h2 (fun z => hne z.symm) (fun i2 _ => by unfold upc; rw [if_pos rfl, if_neg hne])]
      exact Int.mul_zero _)]
    have h3 : dt n (upc e1c l (e1c l)) = 1 := (dt_congr n (fun j i2 _ _ => by unfold upc; split <;> simp_all)).trans (dt_one n)
    rw [h3, Int.mul_one]
  · rw [sumI_one (k := r) hr (fun q2 _ hne => by rw [hb q2]; unfold e1c; rw [if_neg (fun z => hne z.symm)]; exact Int.mul_zero _), hb r]
    unfold e1c; simp
/-- the numbers behind one more step -/
def elS (k : Nat) (d : Int) (A : Nat → Nat → Int) : Nat → Nat → Int := fun l i => if l = k then A k i else (A k k * A l i - A l k * A k i) / d
theorem el_step {n k : Nat} {c : Nat → Nat → Int} {d : Int} {A : Nat → Nat → Int} (h : elI n c k d A) (hk : k < n) (hd : d ≠ 0) (hp : A k k ≠ 0) :
    elI n c (k + 1) (A k k) (elS k d A) ∧ ∀ l i, l < n → l ≠ k → k + 1 ≤ i → i ≤ n → A k k * A l i - A l k * A k i = d * elS k d A l i := by
  obtain ⟨h1, h2, h3⟩ := h
  have hbk : bas c (k + 1) k = c k := if_pos (by omega)
  have hbo : ∀ j, j ≠ k → bas c (k + 1) j = bas c k j := fun j hj => by
    unfold bas
    by_cases q : j < k
    · rw [if_pos q, if_pos (by omega)]
    · rw [if_neg q, if_neg (by omega)]
  have hbu : bas c (k + 1) = upc (bas c k) k (c k) := funext fun j => by
    unfold upc
    by_cases q : j = k
    · subst q; rw [if_pos rfl]; exact hbk
    · rw [if_neg q]; exact hbo j q
  have hpd : A k k = dt n (bas c (k + 1)) := by rw [hbu]; exact h2 k k hk (Nat.le_refl k) (by omega)
  -- the new numbers, as determinants
  have hdet : ∀ l i, l < n → l ≠ k → k + 1 ≤ i → i ≤ n → d * dt n (upc (bas c (k + 1)) l (c i)) = A k k * A l i - A l k * A k i := by
    intro l i hl hlk hi hin
    have e1 : d * dt n (upc (bas c (k + 1)) l (c i)) = dt n (upc (bas c (k + 1)) l (fun r => sumI (fun q => A q i * bas c k q r) n)) := by
      have := dt_lin n (bas c (k + 1)) l d 0 (c i) (fun _ => 0) hl
      simp only [Int.zero_mul, Int.add_zero] at this
      rw [← this]
      exact dt_congr n (fun j r _ hr => by
        unfold upc
        by_cases q : j = l
        · rw [if_pos q, if_pos q, ← h3 i r (by omega) hin hr]
        · rw [if_neg q, if_neg q])
    have key : ∀ m, m ≤ n → dt n (upc (bas c (k + 1)) l (fun r => sumI (fun q => A q i * bas c k q r) m)) = sumI (fun q => A q i * dt n (upc (bas c (k + 1)) l (bas c k q))) m := by
      intro m
      induction m with
      | zero =>
        intro _
        have h := dt_lin n (bas c (k + 1)) l 0 0 (fun _ => 0) (fun _ => 0) hl
        rw [Int.zero_mul, Int.zero_mul] at h
        exact (dt_congr n (fun j i _ _ => by unfold upc; split <;> rfl)).trans h
      | succ m ih =>
        intro hm
        show dt n (upc (bas c (k + 1)) l (fun r => sumI (fun q => A q i * bas c k q r) m + A m i * bas c k m r)) = sumI (fun q => A q i * dt n (upc (bas c (k + 1)) l (bas c k q))) m + A m i * dt n (upc (bas c (k + 1)) l (bas c k m))
        rw [← ih (by omega)]
        have h := dt_lin n (bas c (k + 1)) l 1 (A m i) (fun r => sumI (fun q => A q i * bas c k q r) m) (bas c k m) hl
        rw [Int.one_mul] at h
        rw [← h]
        exact dt_congr n (fun j i2 _ _ => by unfold upc; split <;> simp)
    rw [e1, key n (Nat.le_refl n), sumI_two (k := l) (l := k) hl hk hlk (fun j hj g1 g2 => by
      rw [dt_same (a := l) (b := j) hl hj (fun z => g1 z.symm) (fun i2 _ => by
        unfold upc
        rw [if_pos rfl, if_neg g1, hbo j g2])]
      exact Int.mul_zero _)]
    have e2 : dt n (upc (bas c (k + 1)) l (bas c k l)) = A k k := by
      rw [hpd]
      exact dt_congr n (fun j i2 _ _ => by
        unfold upc
        by_cases q : j = l
        · subst q; rw [if_pos rfl, hbo j hlk]
        · rw [if_neg q])
    have e3 : dt n (upc (bas c (k + 1)) l (bas c k k)) = - A l k := by
      rw [hbu]
      have := dt_tr (n := n) (c := bas c k) (a := k) (b := l) hk hl (fun z => hlk z.symm) (c k) (bas c k k)
      rw [this, h2 l k hl (Nat.le_refl k) (by omega)]
      congr 1
      exact dt_congr n (fun j i2 _ _ => by
        unfold upc
        by_cases q : j = l
        · rw [if_pos q, if_pos q]
        · rw [if_neg q, if_neg q]
          by_cases q2 : j = k
          · rw [if_pos q2, q2]
          · rw [if_neg q2])
    rw [e2, e3]
    grind
  have hdiv : ∀ l i, l < n → l ≠ k → k + 1 ≤ i → i ≤ n → elS k d A l i = dt n (upc (bas c (k + 1)) l (c i)) := fun l i hl hlk hi hin => by
    unfold elS
    rw [if_neg hlk, ← hdet l i hl hlk hi hin]
    exact Int.mul_ediv_cancel_left _ hd
  have hA : ∀ l i, l < n → k + 1 ≤ i → i ≤ n → elS k d A l i = dt n (upc (bas c (k + 1)) l (c i)) := fun l i hl hi hin => by
    by_cases hlk : l = k
    · subst hlk
      unfold elS
      rw [if_pos rfl, h2 l i hl (by omega) hin, hbu]
      exact dt_congr n (fun j i2 _ _ => by unfold upc; by_cases q : j = l <;> simp [q])
    · exact hdiv l i hl hlk hi hin
  have hx : ∀ l i, l < n → l ≠ k → k + 1 ≤ i → i ≤ n → A k k * A l i - A l k * A k i = d * elS k d A l i := fun l i hl hlk hi hin => by
    rw [hdiv l i hl hlk hi hin, hdet l i hl hlk hi hin]
  refine ⟨⟨hpd, hA, fun i r hi hin hr => ?_⟩, hx⟩
  -- the columns out of the new basis
  have q1 := h3 i r (by omega) hin hr
  have q2 := h3 k r (Nat.le_refl k) (by omega) hr
  have sp : ∀ f : Nat → Int, sumI f n = f k + sumI (fun l => if l = k then 0 else f l) n := fun f => by
    have : sumI f n = sumI (fun l => (if l = k then f l else 0) + (if l = k then 0 else f l)) n := sumI_congr (fun j _ => by by_cases q : j = k <;> simp [q])
    rw [this, sumI_add, sumI_one (k := k) hk (fun j _ hne => if_neg hne)]
    simp
  rw [sp] at q1 q2
  rw [sp]
  have hS : sumI (fun l => if l = k then 0 else d * (elS k d A l i * bas c (k + 1) l r)) n = A k k * sumI (fun l => if l = k then 0 else A l i * bas c k l r) n - A k i * sumI (fun l => if l = k then 0 else A l k * bas c k l r) n := by
    rw [← sumI_mul]
    have : A k i * sumI (fun l => if l = k then 0 else A l k * bas c k l r) n = - sumI (fun l => - A k i * (if l = k then 0 else A l k * bas c k l r)) n := by
      rw [sumI_mul]; grind
    rw [this, Int.sub_neg, ← sumI_add]
    refine sumI_congr (fun l hl => ?_)
    by_cases q : l = k
    · simp [q]
    · simp only [if_neg q]
      rw [hbo l q, ← Int.mul_assoc, ← hx l i hl q hi hin]
      grind
  have hS2 : sumI (fun l => if l = k then 0 else d * (elS k d A l i * bas c (k + 1) l r)) n = d * sumI (fun l => if l = k then 0 else elS k d A l i * bas c (k + 1) l r) n := by
    rw [← sumI_mul]
    exact sumI_congr (fun l _ => by by_cases q : l = k <;> simp [q])
  have hkk : elS k d A k i = A k i := if_pos rfl
  rw [hkk, hbk]
  apply Int.eq_of_mul_eq_mul_left hd
  rw [Int.mul_add, ← hS2, hS]
  grind
