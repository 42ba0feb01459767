-- those that are heard, in a row
def hdL (R : Nat) : Nat → Nat → Nat
  | 0 => fun _ => 0
  | i + 1 => fun r => if R.testBit i = true ∧ r = pop i R then i else hdL R i r
theorem pop_s (R i : Nat) : pop (i + 1) R = pop i R + if R.testBit i = true then 1 else 0 := rfl
theorem hd_in {R : Nat} : ∀ {N r : Nat}, r < pop N R → hdL R N r < N ∧ R.testBit (hdL R N r) = true ∧ pop (hdL R N r) R = r := by
  intro N
  induction N with
  | zero => intro r h; exact absurd h (Nat.not_lt_zero _)
  | succ N ih =>
    intro r h
    rw [pop_s] at h
    show (if R.testBit N = true ∧ r = pop N R then N else hdL R N r) < N + 1 ∧ R.testBit (if R.testBit N = true ∧ r = pop N R then N else hdL R N r) = true ∧ pop (if R.testBit N = true ∧ r = pop N R then N else hdL R N r) R = r
    by_cases c : R.testBit N = true ∧ r = pop N R
    · rw [if_pos c]; exact ⟨Nat.lt_succ_self N, c.1, c.2.symm⟩
    · rw [if_neg c]
      have hr : r < pop N R := by
        by_cases c2 : R.testBit N = true
        · rw [if_pos c2] at h
          have : r ≠ pop N R := fun q => c ⟨c2, q⟩
          omega
        · rw [if_neg c2] at h; omega
      have := ih hr
      exact ⟨by omega, this.2⟩
theorem pop_inj {R : Nat} {a b : Nat} (ha : R.testBit a = true) (hb : R.testBit b = true) (h : pop a R = pop b R) : a = b := by
  have key : ∀ {x y : Nat}, x < y → R.testBit x = true → pop x R < pop y R := by
    intro x y hxy hx
    induction y with
    | zero => omega
    | succ y ih =>
      rw [pop_s]
      by_cases e : x = y
      · subst e; rw [if_pos hx]; omega
      · have := ih (by omega); split <;> omega
  rcases Nat.lt_trichotomy a b with c | c | c
  · have := key c ha; omega
  · exact c
  · have := key c hb; omega
theorem pop_up {R : Nat} {a N : Nat} (h : a < N) (ha : R.testBit a = true) : pop a R < pop N R := by
  induction N with
  | zero => omega
  | succ N ih =>
    rw [pop_s]
    by_cases e : a = N
    · subst e; rw [if_pos ha]; omega
    · have := ih (by omega); split <;> omega
theorem hd_of {R N a : Nat} (h : a < N) (ha : R.testBit a = true) : hdL R N (pop a R) = a := by
  have := hd_in (pop_up h ha)
  exact pop_inj this.2.1 ha this.2.2
/-- a sum over the heard is a sum over all, of those that are heard -/
theorem hd_sum {R : Nat} (f : Nat → Int) : ∀ N, sumI (fun r => f (hdL R N r)) (pop N R) = sumI (fun a => if R.testBit a = true then f a else 0) N := by
  intro N
  induction N with
  | zero => rfl
  | succ N ih =>
    show _ = sumI (fun a => if R.testBit a = true then f a else 0) N + (if R.testBit N = true then f N else 0)
    rw [← ih]
    have hold : sumI (fun r => f (hdL R (N + 1) r)) (pop N R) = sumI (fun r => f (hdL R N r)) (pop N R) := sumI_congr (fun r hr => by
      show f (if R.testBit N = true ∧ r = pop N R then N else hdL R N r) = _
      rw [if_neg (fun q => by omega)])
    by_cases c : R.testBit N = true
    · have e : pop (N + 1) R = pop N R + 1 := by rw [pop_s, if_pos c]
      rw [e, if_pos c]
      show sumI (fun r => f (hdL R (N + 1) r)) (pop N R) + f (hdL R (N + 1) (pop N R)) = _
      rw [hold, hd_of (Nat.lt_succ_self N) c]
    · have e : pop (N + 1) R = pop N R := by rw [pop_s, if_neg c]; rfl
      rw [e, if_neg c, hold]; omega
/-- the columns of those that are heard -/
def cH (G : Nat → Nat → Nat) (R N : Nat) (j i : Nat) : Int := if j = pop N R then 1 else if i = j then 10 else - (G (hdL R N j) (hdL R N i) : Int)
/-- every row hands ten on, all within n -/
def rowT (n : Nat) (G : Nat → Nat → Nat) : Prop := ∀ a, a < n → sumI (fun b => (G a b : Int)) n = 10
theorem mmx_H {n : Nat} {G : Nat → Nat → Nat} {R : Nat} (hG : rowT n G) (hn : n ≤ 8) (hR : ∀ a, a < n → (R.testBit a = true ↔ Rch n G a)) : mmx (pop n R) (cH G R n) 8 := by
  have hp : pop n R ≤ n := pop_le R n
  have hcs : ∀ j, j < pop n R → sumI (cH G R n j) (pop n R) + sumI (fun i => (G (hdL R n j) (hdL R n i) : Int)) (pop n R) = 10 + G (hdL R n j) (hdL R n j) := fun j hj => by
    rw [← sumI_add]
    have : sumI (fun i => cH G R n j i + (G (hdL R n j) (hdL R n i) : Int)) (pop n R) = sumI (fun i => if i = j then 10 + (G (hdL R n j) (hdL R n j) : Int) else 0) (pop n R) := sumI_congr (fun i _ => by
      unfold cH
      rw [if_neg (show ¬ j = pop n R by omega)]
      by_cases q : i = j
      · subst q; simp
      · simp [q]; omega)
    rw [this, sumI_one (k := j) hj (fun i _ hne => if_neg hne)]
    exact if_pos rfl
  have hle : ∀ a, a < n → sumI (fun i => (G a (hdL R n i) : Int)) (pop n R) ≤ 10 := fun a ha => by
    rw [hd_sum (fun b => (G a b : Int)), ← hG a ha]
    exact sumI_le (fun b _ => by split <;> omega)
  have hleak : ∀ j, j < pop n R → (G (hdL R n j) (hdL R n j) : Int) ≤ sumI (cH G R n j) (pop n R) := fun j hj => by
    have := hcs j hj
    have := hle (hdL R n j) (hd_in hj).1
    omega
  refine ⟨fun j hj => by unfold cH; rw [if_neg (by omega), if_pos rfl], fun j i hj hi hne => by unfold cH; rw [if_neg (by omega), if_neg hne]; omega, fun j hj => by have := hleak j hj; omega, fun i _ => by unfold cH; rw [if_pos rfl]; decide, ?_, by decide, fun S hS j hj hSj => ?_⟩
  · have : sumI (cH G R n (pop n R)) (pop n R) = ((pop n R : Nat) : Int) := by
      have : ∀ m, sumI (fun _ => (1 : Int)) m = (m : Int) := by
        intro m
        induction m with
        | zero => rfl
        | succ m ih => show sumI (fun _ => (1 : Int)) m + 1 = _; rw [ih]; omega
      rw [← this (pop n R)]
      exact sumI_congr (fun i _ => by unfold cH; rw [if_pos rfl])
    omega
  · have key : ∀ k j, j < pop n R → S j → ¬ rch n G k (hdL R n j) := by
      intro k
      induction k with
      | zero =>
        intro j hj hs h0
        have h1 := (hS j hj hs).1
        have h2 := hleak j hj
        have h0 : 0 < G (hdL R n j) (hdL R n j) := h0
        omega
      | succ k ih =>
        intro j hj hs h0
        rcases h0 with h0 | ⟨b, hb, hg, hk⟩
        · exact ih j hj hs h0
        · have hbR := (hR b hb).mpr ⟨k, hk⟩
          have hbp := pop_up hb hbR
          have hbe := hd_of hb hbR
          by_cases q : pop b R = j
          · rw [q] at hbe
            have h1 := (hS j hj hs).1
            have h2 := hleak j hj
            rw [hbe] at hg h2
            omega
          · have := (hS j hj hs).2 (pop b R) hbp q (by
              unfold cH
              rw [if_neg (by omega), if_neg q, hbe]; omega)
            exact ih (pop b R) hbp this (by rw [hbe]; exact hk)
    obtain ⟨h1, h2, -⟩ := hd_in hj
    obtain ⟨k, hk⟩ := (hR _ h1).mp h2
    exact key k j hj hSj hk
-- the rows of GG
theorem pt_sum {n t v : Nat} (ht : t < n) : sumI (fun b => (pt t v b : Int)) n = v := by
  rw [sumI_one (k := t) ht (fun b _ hne => by unfold pt; rw [if_neg hne]; rfl)]
  unfold pt; rw [if_pos rfl]
theorem tg_lt {P : hPF} {a b : Nat} (ha : a < P.1) (hb : b < P.1) : tg P a b < P.1 := by unfold tg; split <;> assumption
theorem G0_row {P : hPF} {h : hEH} (hw : ehW P h) {a : Nat} (ha : a < P.1) : sumI (fun b => (G0 P h a b : Int)) P.1 = 10 := by
  rcases hw a ha with q | ⟨q, q1, -⟩ | ⟨q, q1, -, q3, -⟩ | ⟨q, q1, -, q3, -, -, q5, q6⟩ | q
  · rw [sumI_congr (fun b _ => by rw [G0_1 q b]), pt_sum ha]; rfl
  · rw [sumI_congr (fun b _ => by rw [G0_2 q b]), pt_sum (tg_lt ha q1)]; rfl
  · rw [sumI_congr (fun b _ => by rw [G0_3 q b]), pt_sum (tg_lt ha (by split <;> assumption))]; rfl
  · rw [sumI_congr (g := fun b => ((pt (tg P a (h a).2.1) (h a).2.2.2 b : Nat) : Int) + ((pt (tg P a (h a).2.2.1) (10 - (h a).2.2.2) b : Nat) : Int)) (fun b _ => by rw [G0_4 q b]; omega), sumI_add, pt_sum (tg_lt ha q1), pt_sum (tg_lt ha q3)]; omega
  · rw [sumI_congr (fun b _ => by rw [G0_5 q b]), pt_sum (by
      cases hb : bld P a with
      | none => exact ha
      | some t => exact (sst_ok hb).1)]; rfl
theorem GW_row {P : hPF} {h : hEH} (hw : ehW P h) {y a : Nat} (ha : a < P.1) : sumI (fun b => (GW P h y a b : Int)) P.1 = 10 := by
  cases ho : isO h a with
  | true =>
    have q := isO_t.mp ho
    rw [sumI_congr (g := fun b => ((pt (nmY h y a) 10 b : Nat) : Int)) (fun b _ => by unfold GW; rw [if_pos ho]), pt_sum]
    · rfl
    · rcases hw a ha with w | ⟨w, -⟩ | ⟨w, q1, -, q3, -⟩ | ⟨w, -⟩ | w <;> rw [q] at w <;> first | (exact absurd w (by decide)) | (unfold nmY; split <;> assumption)
  | false =>
    rw [sumI_congr (g := fun b => ((G0 P h a b : Nat) : Int)) (fun b _ => by unfold GW; rw [if_neg (by rw [ho]; decide)])]
    exact G0_row hw ha
theorem GG_row {P : hPF} {h : hEH} (hw : ehW P h) (ring : Nat) : rowT P.1 (GG P ring h) := by
  intro a ha
  by_cases c : ring = 0
  · rw [sumI_congr (g := fun b => ((G0 P h a b : Nat) : Int)) (fun b _ => by unfold GG; rw [if_pos c])]
    exact G0_row hw ha
  · cases hb : bst P h with
    | none =>
      rw [sumI_congr (g := fun b => ((G0 P h a b : Nat) : Int)) (fun b _ => by unfold GG; rw [if_neg c, hb])]
      exact G0_row hw ha
    | some y =>
      rw [sumI_congr (g := fun b => ((GW P h y a b : Nat) : Int)) (fun b _ => by unfold GG; rw [if_neg c, hb])]
      exact GW_row hw ha
