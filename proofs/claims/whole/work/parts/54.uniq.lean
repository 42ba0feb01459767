-- one answer: voices as fractions
theorem mulI_cancel {a b c : Int} (hc : 0 < c) (h : a * c = b * c) : a = b := Int.eq_of_mul_eq_mul_right (by omega) h
theorem isV_uniq {n : Nat} {G : Nat → Nat → Nat} {cap : Nat} {W W' : Int} {v v' : Nat → Int} (hG : rowT n G) (hn : n ≤ 8) (h : isV n G cap W v) (h' : isV n G cap W' v') (a : Nat) : v a * W' = v' a * W := by
  obtain ⟨w0, w1, x, hx, hs, hv⟩ := h
  obtain ⟨u0, u1, x', hx', hs', hv'⟩ := h'
  obtain ⟨R, hR⟩ : ∃ R, R = msk (hrd n G) n := ⟨_, rfl⟩
  have hRt : ∀ a, a < n → (R.testBit a = true ↔ hrd n G a = true) := fun a ha => by rw [hR, msk_bit]; simp [ha]
  have hRb : ∀ a, a < n → (R.testBit a = true ↔ Rch n G a) := fun a ha => (hRt a ha).trans bo_t
  have hy := el_uniq (mmx_H hG hn hRb) (y := fun l => x (hdL R n l) * W' - x' (hdL R n l) * W) (fun r hr => by
    obtain ⟨r1, r2, r3⟩ := hd_in hr
    have e1 : sumI (fun l => (x (hdL R n l) * W' - x' (hdL R n l) * W) * cH G R n l r) (pop n R) = sumI (fun l => (fun c => (x c * W' - x' c * W) * (if c = hdL R n r then 10 else - (G c (hdL R n r) : Int))) (hdL R n l)) (pop n R) := sumI_congr (fun l hl => by
      obtain ⟨l1, l2, l3⟩ := hd_in hl
      show _ = (x (hdL R n l) * W' - x' (hdL R n l) * W) * (if hdL R n l = hdL R n r then 10 else - (G (hdL R n l) (hdL R n r) : Int))
      congr 1
      unfold cH
      rw [if_neg (show ¬ l = pop n R by omega)]
      by_cases c : r = l
      · rw [if_pos c, if_pos (by rw [c])]
      · rw [if_neg c, if_neg (fun c2 => c (by rw [← r3, ← l3, c2]))])
    rw [e1, hd_sum (fun c => (x c * W' - x' c * W) * (if c = hdL R n r then 10 else - (G c (hdL R n r) : Int)))]
    have s1 := hs (hdL R n r) r1 ((hRt _ r1).mp r2)
    have s2 := hs' (hdL R n r) r1 ((hRt _ r1).mp r2)
    have e2 : sumI (fun a => if R.testBit a = true then (x a * W' - x' a * W) * (if a = hdL R n r then 10 else - (G a (hdL R n r) : Int)) else 0) n = sumI (fun a => W' * (if hrd n G a = true then (if a = hdL R n r then 10 else - (G a (hdL R n r) : Int)) * x a else 0) + (-W) * (if hrd n G a = true then (if a = hdL R n r then 10 else - (G a (hdL R n r) : Int)) * x' a else 0)) n := sumI_congr (fun c hc => by
      generalize (if c = hdL R n r then (10 : Int) else - (G c (hdL R n r) : Int)) = t
      by_cases q : R.testBit c = true
      · rw [if_pos q, if_pos ((hRt c hc).mp q), if_pos ((hRt c hc).mp q)]; grind
      · rw [if_neg q, if_neg (fun z => q ((hRt c hc).mpr z)), if_neg (fun z => q ((hRt c hc).mpr z))]; omega)
    rw [e2, sumI_add, sumI_mul, sumI_mul, s1, s2]
    grind)
  have hxx : ∀ a, a < n → hrd n G a = true → x a * W' = x' a * W := fun a ha q => by
    have q2 := (hRt a ha).mpr q
    have := hy (pop a R) (pop_up ha q2)
    simp only [hd_of ha q2] at this
    omega
  rw [hv a, hv' a]
  by_cases c : a < n ∧ hrd n G a = true
  · rw [if_pos c, if_pos c]
    have e := hxx a c.1 c.2
    have e2 : (x a * (G a a : Int)) * W' = (x' a * (G a a : Int)) * W := by grind
    have e3 : ((cap : Int) * W) * W' = ((cap : Int) * W') * W := by grind
    generalize x a * (G a a : Int) = p at *
    generalize x' a * (G a a : Int) = p' at *
    generalize (cap : Int) * W = t at *
    generalize (cap : Int) * W' = t' at *
    by_cases q : p ≤ t
    · have h1 : p * W' ≤ t * W' := Int.mul_le_mul_of_nonneg_right q (by omega)
      rw [e2, e3] at h1
      have h2 : p' ≤ t' := Int.le_of_mul_le_mul_right h1 w0
      rw [Int.min_eq_left q, Int.min_eq_left h2, e2]
    · have h1 : t * W' ≤ p * W' := Int.mul_le_mul_of_nonneg_right (by omega) (by omega)
      rw [e2, e3] at h1
      have h2 : t' ≤ p' := Int.le_of_mul_le_mul_right h1 w0
      rw [Int.min_eq_right (by omega), Int.min_eq_right h2, e3]
  · rw [if_neg c, if_neg c]; omega
-- proportional voices
def prp (W : Int) (v : Nat → Int) (W' : Int) (v' : Nat → Int) : Prop := 0 < W ∧ 0 < W' ∧ ∀ a, v a * W' = v' a * W
theorem prp_sum {W W' : Int} {v v' : Nat → Int} (h : prp W v W' v') (p : Nat → Bool) : ∀ n, sumI (fun a => if p a = true then v a else 0) n * W' = sumI (fun a => if p a = true then v' a else 0) n * W := by
  intro n
  induction n with
  | zero => show (0 : Int) * _ = 0 * _; omega
  | succ n ih =>
    show (sumI (fun a => if p a = true then v a else 0) n + (if p n = true then v n else 0)) * W' = (sumI (fun a => if p a = true then v' a else 0) n + (if p n = true then v' n else 0)) * W
    have := h.2.2 n
    rw [Int.add_mul, Int.add_mul, ih]
    by_cases c : p n = true
    · rw [if_pos c, if_pos c, this]
    · rw [if_neg c, if_neg c]; omega
theorem prp_lt {W W' p q p' q' : Int} (w0 : 0 < W) (u0 : 0 < W') (e1 : p * W' = p' * W) (e2 : q * W' = q' * W) : p < q ↔ p' < q' := by
  constructor
  · intro h
    have h1 : p * W' < q * W' := Int.mul_lt_mul_of_pos_right h u0
    rw [e1, e2] at h1
    exact Int.lt_of_mul_lt_mul_right h1 (by omega)
  · intro h
    have h1 : p' * W < q' * W := Int.mul_lt_mul_of_pos_right h w0
    rw [← e1, ← e2] at h1
    exact Int.lt_of_mul_lt_mul_right h1 (by omega)
theorem prp_sum0 {W W' : Int} {v v' : Nat → Int} (h : prp W v W' v') (n : Nat) : sumI v n * W' = sumI v' n * W := by
  have := prp_sum h (fun _ => true) n
  simpa using this
theorem dcd_inv {D : hD} {W W' : Int} {v v' : Nat → Int} (h : prp W v W' v') (S : Nat) : dcd D v S = dcd D v' S := by
  have h1 := prp_sum h (fun a => S.testBit a) (D 0 0)
  have h2 := prp_sum0 h (D 0 0)
  unfold dcd
  rw [decide_eq_decide]
  refine prp_lt h.1 h.2.1 ?_ ?_
  · rw [Int.mul_assoc, h2, Int.mul_assoc]
  · rw [Int.mul_assoc, h1, Int.mul_assoc]
theorem vts_inv {W W' : Int} {v v' : Nat → Int} (h : prp W v W' v') (n : Nat) : msk (fun a => decide (0 < v a)) n = msk (fun a => decide (0 < v' a)) n := by
  refine msk_ext (fun a _ => ?_)
  rw [decide_eq_decide]
  exact prp_lt h.1 h.2.1 (by rw [Int.zero_mul, Int.zero_mul]) (h.2.2 a)
theorem chn_inv {D : hD} {m : Nat} {W W' : Int} {v v' : Nat → Int} (h : prp W v W' v') : chn D m v = chn D m v' := by
  unfold chn
  rw [vts_inv h]
  refine congrArg _ (funext (fun x => ?_))
  rw [dcd_inv h]
theorem mxI_inv {W W' : Int} {v v' : Nat → Int} (h : prp W v W' v') : ∀ n, mxI v n * W' = mxI v' n * W := by
  intro n
  induction n with
  | zero => show (0 : Int) * _ = 0 * _; omega
  | succ n ih =>
    show max (mxI v n) (v n) * W' = max (mxI v' n) (v' n) * W
    have e := h.2.2 n
    have := prp_lt h.1 h.2.1 ih e
    by_cases c : mxI v n < v n
    · rw [Int.max_eq_right (by omega), Int.max_eq_right (by have := this.mp c; omega), e]
    · rw [Int.max_eq_left (by omega), Int.max_eq_left (by have : ¬ _ := fun z => c (this.mpr z); omega), ih]
