-- HOW A TEXT IS READ: T its bytes, n how many
def seeN (T : Nat → Nat) (n p : Nat) : Nat := if p < n then T p else 256
def isDg (c : Nat) : Bool := decide (48 ≤ c ∧ c ≤ 57)
def fgL (T : Nat → Nat) (n : Nat) : Nat → Nat → Nat → Nat → Nat × Nat × Nat
  | 0, p, v, c => (p, v, c)
  | f + 1, p, v, c => if isDg (seeN T n p) = true then fgL T n f (p + 1) (v * 10 + (seeN T n p - 48)) (c + 1) else (p, v, c)
def fgP (T : Nat → Nat) (n p : Nat) : Nat × Nat × Nat := fgL T n 3 p 0 0
theorem fgL_ok {T : Nat → Nat} {n : Nat} : ∀ f p v c, p ≤ n → v < 10 ^ c → (fgL T n f p v c).1 = p + ((fgL T n f p v c).2.2 - c) ∧ c ≤ (fgL T n f p v c).2.2 ∧ (fgL T n f p v c).2.2 ≤ c + f ∧ (fgL T n f p v c).1 ≤ n ∧ (fgL T n f p v c).2.1 < 10 ^ (fgL T n f p v c).2.2 := by
  intro f
  induction f with
  | zero => intro p v c hp hv; exact ⟨by show p = p + (c - c); omega, Nat.le_refl c, Nat.le_refl c, hp, hv⟩
  | succ f ih =>
    intro p v c hp hv
    have e : fgL T n (f + 1) p v c = if isDg (seeN T n p) = true then fgL T n f (p + 1) (v * 10 + (seeN T n p - 48)) (c + 1) else (p, v, c) := rfl
    rw [e]
    by_cases q : isDg (seeN T n p) = true
    · rw [if_pos q]
      have q2 : 48 ≤ seeN T n p ∧ seeN T n p ≤ 57 := of_decide_eq_true q
      have hpn : p < n := by
        apply Classical.byContradiction
        intro z
        unfold seeN at q2
        rw [if_neg z] at q2
        omega
      have hpw : 10 ^ (c + 1) = 10 ^ c * 10 := Nat.pow_succ _ _
      obtain ⟨h1, h2, h3, h4, h5⟩ := ih (p + 1) (v * 10 + (seeN T n p - 48)) (c + 1) hpn (by omega)
      exact ⟨by omega, by omega, by omega, h4, h5⟩
    · rw [if_neg q]
      exact ⟨by show p = p + (c - c); omega, Nat.le_refl c, Nat.le_add_right c _, hp, hv⟩
theorem fgP_ok {T : Nat → Nat} {n p : Nat} (hp : p ≤ n) : (fgP T n p).1 = p + (fgP T n p).2.2 ∧ (fgP T n p).2.2 ≤ 3 ∧ (fgP T n p).1 ≤ n ∧ (fgP T n p).2.1 < 1000 := by
  obtain ⟨h1, h2, h3, h4, h5⟩ := fgL_ok (T := T) (n := n) 3 p 0 0 hp (by decide)
  have h6 : 10 ^ (fgP T n p).2.2 ≤ 10 ^ 3 := Nat.pow_le_pow_right (by decide) (by unfold fgP; omega)
  unfold fgP at *
  exact ⟨by omega, by omega, h4, by omega⟩
abbrev hVl : Type := (Nat → Nat) → Bool
abbrev hPR : Type := Nat ⊕ (Nat × List Int32 × hVl)
def ltI (c : Nat) : Nat := if c = 97 then 0 else if c = 98 then 1 else if c = 109 then 2 else if c = 115 then 3 else if c = 113 then 4 else 5
def tsC (T : Nat → Nat) (n p : Nat) : Nat := (ltI (seeN T n p) * 3 + (seeN T n (p + 1) - 60)) * 1000 + (fgP T n (p + 2)).2.1
def tsP (T : Nat → Nat) (n p : Nat) : hPR := if ltI (seeN T n p) = 5 then .inl p else if seeN T n (p + 1) < 60 ∨ 62 < seeN T n (p + 1) then .inl (p + 1) else if (fgP T n (p + 2)).2.2 = 0 then .inl (p + 2) else .inr ((fgP T n (p + 2)).1, [nI (tsC T n p)], fun F => tru F (tsC T n p))
def ntP : hPR → hPR
  | .inl q => .inl q
  | .inr a => .inr (a.1, a.2.1 ++ [-1], fun F => !a.2.2 F)
def prP (T : Nat → Nat) (n : Nat) : hPR → hPR
  | .inl q => .inl q
  | .inr a => if seeN T n a.1 = 41 then .inr (a.1 + 1, a.2.1, a.2.2) else .inl a.1
def tmP (T : Nat → Nat) (n : Nat) (S : Nat → hPR) : Nat → Nat × List Int32 × hVl → hPR
  | 0, a => .inr a
  | f + 1, a => if seeN T n a.1 = 38 then (match S (a.1 + 1) with
    | .inl q => .inl q
    | .inr b => tmP T n S f (b.1, a.2.1 ++ b.2.1 ++ [-2], fun F => a.2.2 F && b.2.2 F)) else .inr a
def eiT (T : Nat → Nat) (n : Nat) (S : Nat → hPR) (p : Nat) : hPR := match S p with
  | .inl q => .inl q
  | .inr a => tmP T n S 101 a
def eiL (T : Nat → Nat) (n : Nat) (S : Nat → hPR) : Nat → Nat × List Int32 × hVl → hPR
  | 0, a => .inr a
  | f + 1, a => if seeN T n a.1 = 124 then (match eiT T n S (a.1 + 1) with
    | .inl q => .inl q
    | .inr b => eiL T n S f (b.1, a.2.1 ++ b.2.1 ++ [-3], fun F => a.2.2 F || b.2.2 F)) else .inr a
def eiP (T : Nat → Nat) (n : Nat) (S : Nat → hPR) (p : Nat) : hPR := match eiT T n S p with
  | .inl q => .inl q
  | .inr a => eiL T n S 101 a
def sgP (T : Nat → Nat) (n : Nat) : Nat → Nat → hPR
  | 0, p => if seeN T n p = 33 ∨ seeN T n p = 40 then .inl p else tsP T n p
  | r + 1, p => if seeN T n p = 33 then ntP (sgP T n r (p + 1)) else if seeN T n p = 40 then prP T n (eiP T n (sgP T n r) (p + 1)) else tsP T n p
-- what the steps come to
def rnL (F : Nat → Nat) (c : List Int32) (o : Nat) : Nat := c.foldl (fun o x => stp F x o) o
def btN (b : Bool) : Nat := if b = true then 1 else 0
theorem btN_2 (b : Bool) : btN b < 2 := by cases b <;> decide
def wfI (x : Int32) : Prop := (x < 0 → x = -1 ∨ x = -2 ∨ x = -3) ∧ (¬ x < 0 → x.toNatClampNeg < 15000)
def gdC (h : Nat) (c : List Int32) (v : hVl) : Prop := (∀ x, x ∈ c → wfI x) ∧ ∀ F o j, o < 2 ^ j → j + h ≤ 31 → rnL F c o = 2 * o + btN (v F) ∧ ∀ k, k ≤ c.length → rnL F (c.take k) o < 2 ^ (j + h)
theorem rnL_app (F : Nat → Nat) (c d : List Int32) (o : Nat) : rnL F (c ++ d) o = rnL F d (rnL F c o) := by unfold rnL; exact List.foldl_append
theorem or_2 {o b : Nat} (hb : b < 2) : o * 2 ||| b = 2 * o + b := by
  have z := Nat.two_pow_add_eq_or_of_lt (i := 1) (b := b) hb o
  rw [Nat.mul_comm o 2]
  exact z.symm
theorem stp_1 (F : Nat → Nat) (o : Nat) (b : Bool) : stp F (-1) (2 * o + btN b) = 2 * o + btN (!b) := by
  have e : stp F (-1) (2 * o + btN b) = (2 * o + btN b) ^^^ 1 := by unfold stp; rw [if_pos (by decide), if_pos rfl]
  rw [e]
  apply Nat.eq_of_testBit_eq
  intro i
  cases i with
  | zero =>
    rw [Nat.testBit_xor]
    simp only [Nat.testBit_zero]
    cases b
    · show (decide ((2 * o + 0) % 2 = 1) ^^ decide (1 % 2 = 1)) = decide ((2 * o + 1) % 2 = 1)
      rw [show (2 * o + 0) % 2 = 0 by omega, show (2 * o + 1) % 2 = 1 by omega]; rfl
    · show (decide ((2 * o + 1) % 2 = 1) ^^ decide (1 % 2 = 1)) = decide ((2 * o + 0) % 2 = 1)
      rw [show (2 * o + 0) % 2 = 0 by omega, show (2 * o + 1) % 2 = 1 by omega]; rfl
  | succ i =>
    have h1 := btN_2 b
    have h2 := btN_2 (!b)
    rw [Nat.testBit_xor, Nat.testBit_succ, Nat.testBit_succ, Nat.testBit_succ, show (2 * o + btN b) / 2 = o by omega, show (2 * o + btN !b) / 2 = o by omega, show 1 / 2 = 0 from rfl]
    simp
theorem stp_3 (F : Nat → Nat) (o : Nat) (b c : Bool) : stp F (-3) (2 * (2 * o + btN b) + btN c) = 2 * o + btN (b || c) := by
  have h1 := btN_2 b
  have h2 := btN_2 c
  have e : stp F (-3) (2 * (2 * o + btN b) + btN c) = (2 * (2 * o + btN b) + btN c) / 2 ||| (2 * (2 * o + btN b) + btN c) % 2 := by unfold stp; rw [if_pos (by decide), if_neg (by decide), if_pos rfl]
  rw [e, show (2 * (2 * o + btN b) + btN c) / 2 = 2 * o + btN b by omega, show (2 * (2 * o + btN b) + btN c) % 2 = btN c by omega, ← or_2 h1, Nat.or_assoc, ← or_2 (btN_2 (b || c))]
  congr 1
  cases b <;> cases c <;> rfl
theorem and_m {x : Nat} (hx : x < 2 ^ 31) : (2 * x + 1) &&& 4294967294 = 2 * x ∧ (2 * x) &&& 4294967294 = 2 * x := by
  have key : ∀ b, b < 2 → (2 * x + b) &&& 4294967294 = 2 * x := fun b hb => by
    apply Nat.eq_of_testBit_eq
    intro i
    cases i with
    | zero =>
      rw [Nat.testBit_and]
      simp only [Nat.testBit_zero]
      rw [show (4294967294 : Nat) % 2 = 0 from rfl, show 2 * x % 2 = 0 by omega]
      simp
    | succ i =>
      rw [Nat.testBit_and, Nat.testBit_succ, Nat.testBit_succ, Nat.testBit_succ, show (2 * x + b) / 2 = x by omega, show 2 * x / 2 = x by omega, show (4294967294 : Nat) / 2 = 2 ^ 31 - 1 from rfl, tb_full]
      by_cases c : i < 31
      · simp [c]
      · rw [tb_hi hx (by omega)]; rfl
  exact ⟨key 1 (by decide), key 0 (by decide)⟩
theorem stp_2 (F : Nat → Nat) {o : Nat} (ho : o < 2 ^ 30) (b c : Bool) : stp F (-2) (2 * (2 * o + btN b) + btN c) = 2 * o + btN (b && c) := by
  have h1 := btN_2 b
  have h2 := btN_2 c
  have e : stp F (-2) (2 * (2 * o + btN b) + btN c) = (2 * (2 * o + btN b) + btN c) / 2 &&& ((2 * (2 * o + btN b) + btN c) % 2 ||| 4294967294) := by unfold stp; rw [if_pos (by decide), if_neg (by decide), if_neg (by decide)]
  rw [e, show (2 * (2 * o + btN b) + btN c) / 2 = 2 * o + btN b by omega, show (2 * (2 * o + btN b) + btN c) % 2 = btN c by omega]
  obtain ⟨m1, m2⟩ := and_m (x := o) (by omega)
  cases c with
  | false =>
    rw [show btN false ||| 4294967294 = 4294967294 from rfl, Bool.and_false]
    cases b
    · exact m2
    · exact m1
  | true =>
    rw [show btN true ||| 4294967294 = 2 ^ 32 - 1 from rfl, Bool.and_true, Nat.and_two_pow_sub_one_eq_mod, Nat.mod_eq_of_lt (by omega)]
theorem gd_mono {h h' : Nat} {c : List Int32} {v : hVl} (hh : h ≤ h') (g : gdC h c v) : gdC h' c v := by
  refine ⟨g.1, fun F o j ho hj => ?_⟩
  obtain ⟨g1, g2⟩ := g.2 F o j ho (by omega)
  exact ⟨g1, fun k hk => Nat.lt_of_lt_of_le (g2 k hk) (Nat.pow_le_pow_right (by decide) (by omega))⟩
theorem gd_test {w : Nat} (hw : w < 15000) : gdC 1 [nI w] (fun F => tru F w) := by
  refine ⟨fun x hx => ?_, fun F o j ho hj => ?_⟩
  · have : x = nI w := by simpa using hx
    subst this
    exact ⟨fun q => absurd q (nI_pos (by omega)), fun _ => by rw [nI_clamp (by omega)]; exact hw⟩
  · have e : rnL F [nI w] o = 2 * o + btN (tru F w) := by
      show stp F (nI w) o = _
      rw [stp_test hw]
      exact or_2 (btN_2 _)
    have hb := btN_2 (tru F w)
    have hp : 2 ^ (j + 1) = 2 ^ j * 2 := Nat.pow_succ _ _
    refine ⟨e, fun k hk => ?_⟩
    have hk : k ≤ 1 := hk
    rcases (show k = 0 ∨ k = 1 by omega) with rfl | rfl
    · show o < _; omega
    · show rnL F [nI w] o < _; rw [e]; omega
theorem gd_not {h : Nat} {c : List Int32} {v : hVl} (h1 : 1 ≤ h) (g : gdC h c v) : gdC h (c ++ [-1]) (fun F => !v F) := by
  refine ⟨fun x hx => ?_, fun F o j ho hj => ?_⟩
  · rcases List.mem_append.mp hx with q | q
    · exact g.1 x q
    · have : x = -1 := by simpa using q
      subst this
      exact ⟨fun _ => Or.inl rfl, fun q => absurd (by decide) q⟩
  · obtain ⟨g1, g2⟩ := g.2 F o j ho hj
    have e : rnL F (c ++ [-1]) o = 2 * o + btN (!v F) := by
      rw [rnL_app, g1]; exact stp_1 F o (v F)
    have hb := btN_2 (!v F)
    have hp : 2 ^ (j + 1) = 2 ^ j * 2 := Nat.pow_succ _ _
    have hp2 : 2 ^ (j + 1) ≤ 2 ^ (j + h) := Nat.pow_le_pow_right (by decide) (by omega)
    refine ⟨e, fun k hk => ?_⟩
    rw [List.length_append] at hk
    have hk : k ≤ c.length + 1 := hk
    by_cases q : k ≤ c.length
    · rw [List.take_append_of_le_length q]; exact g2 k q
    · rw [List.take_of_length_le (by rw [List.length_append]; simp; omega), e]; omega
theorem gd_bin {h1 h2 : Nat} {c1 c2 : List Int32} {v1 v2 : hVl} {x : Int32} {op : Bool → Bool → Bool} (hx : wfI x) (hop : ∀ F o b c, o < 2 ^ 30 → stp F x (2 * (2 * o + btN b) + btN c) = 2 * o + btN (op b c)) (p2 : 1 ≤ h2) (g1 : gdC h1 c1 v1) (g2 : gdC h2 c2 v2) : gdC (max h1 (h2 + 1)) (c1 ++ c2 ++ [x]) (fun F => op (v1 F) (v2 F)) := by
  refine ⟨fun y hy => ?_, fun F o j ho hj => ?_⟩
  · rcases List.mem_append.mp hy with q | q
    · rcases List.mem_append.mp q with q | q
      · exact g1.1 y q
      · exact g2.1 y q
    · have : y = x := by simpa using q
      subst this; exact hx
  · have hm1 := Nat.le_max_left h1 (h2 + 1)
    have hm2 := Nat.le_max_right h1 (h2 + 1)
    generalize max h1 (h2 + 1) = h at *
    obtain ⟨a1, a2⟩ := g1.2 F o j ho (by omega)
    have hb1 := btN_2 (v1 F)
    have hp : 2 ^ (j + 1) = 2 ^ j * 2 := Nat.pow_succ _ _
    obtain ⟨b1, b2⟩ := g2.2 F (2 * o + btN (v1 F)) (j + 1) (by omega) (by omega)
    have hj30 : 2 ^ j ≤ 2 ^ 30 := Nat.pow_le_pow_right (by decide) (by omega)
    have e12 : rnL F (c1 ++ c2) o = 2 * (2 * o + btN (v1 F)) + btN (v2 F) := by rw [rnL_app, a1, b1]
    have e : rnL F (c1 ++ c2 ++ [x]) o = 2 * o + btN (op (v1 F) (v2 F)) := by
      rw [rnL_app, e12]; exact hop F o _ _ (by omega)
    have hb := btN_2 (op (v1 F) (v2 F))
    have hp2 : 2 ^ (j + 1) ≤ 2 ^ (j + h) := Nat.pow_le_pow_right (by decide) (by omega)
    refine ⟨e, fun k hk => ?_⟩
    rw [List.length_append] at hk
    have hk : k ≤ (c1 ++ c2).length + 1 := hk
    by_cases q : k ≤ (c1 ++ c2).length
    · rw [List.take_append_of_le_length q]
      by_cases q2 : k ≤ c1.length
      · rw [List.take_append_of_le_length q2]
        exact Nat.lt_of_lt_of_le (a2 k q2) (Nat.pow_le_pow_right (by decide) (by omega))
      · rw [List.length_append] at q
        rw [List.take_append, List.take_of_length_le (by omega), rnL_app, a1]
        exact Nat.lt_of_lt_of_le (b2 (k - c1.length) (by omega)) (Nat.pow_le_pow_right (by decide) (by omega))
    · rw [List.take_of_length_le (by rw [List.length_append (bs := [x])]; simp at *; omega), e]; omega
theorem wf_2 : wfI (-2) := ⟨fun _ => Or.inr (Or.inl rfl), fun q => absurd (by decide) q⟩
theorem wf_3 : wfI (-3) := ⟨fun _ => Or.inr (Or.inr rfl), fun q => absurd (by decide) q⟩
-- where what is read ends
def okR (n h p : Nat) (a : Nat × List Int32 × hVl) : Prop := p < a.1 ∧ a.1 ≤ n ∧ a.2.1.length + p ≤ a.1 ∧ gdC h a.2.1 a.2.2
def okP (n h p : Nat) : hPR → Prop
  | .inl q => p ≤ q ∧ q ≤ n
  | .inr a => okR n h p a
theorem see_lt {T : Nat → Nat} {n p c : Nat} (h : seeN T n p = c) (hc : c < 256) : p < n := by
  apply Classical.byContradiction
  intro z
  unfold seeN at h
  rw [if_neg z] at h
  omega
theorem ltI_lt {T : Nat → Nat} {n p : Nat} (h : ¬ ltI (seeN T n p) = 5) : p < n := by
  apply Classical.byContradiction
  intro z
  apply h
  unfold seeN
  rw [if_neg z]; rfl
theorem ltI_5 (c : Nat) : ltI c ≤ 5 := by unfold ltI; split <;> (try split) <;> (try split) <;> (try split) <;> (try split) <;> omega
theorem ts_ok {T : Nat → Nat} {n p : Nat} (hp : p ≤ n) : okP n 1 p (tsP T n p) := by
  unfold tsP
  by_cases c1 : ltI (seeN T n p) = 5
  · rw [if_pos c1]; exact ⟨Nat.le_refl p, hp⟩
  · have l1 := ltI_lt c1
    have l5 := ltI_5 (seeN T n p)
    rw [if_neg c1]
    by_cases c2 : seeN T n (p + 1) < 60 ∨ 62 < seeN T n (p + 1)
    · rw [if_pos c2]; exact ⟨Nat.le_succ p, l1⟩
    · have l2 : p + 1 < n := see_lt (T := T) rfl (by omega)
      obtain ⟨f1, f2, f3, f4⟩ := fgP_ok (T := T) (n := n) (p := p + 2) l2
      rw [if_neg c2]
      by_cases c3 : (fgP T n (p + 2)).2.2 = 0
      · rw [if_pos c3]; exact ⟨by omega, l2⟩
      · rw [if_neg c3]
        refine ⟨?_, f3, ?_, gd_test ?_⟩
        · show p < (fgP T n (p + 2)).1; omega
        · show 1 + p ≤ (fgP T n (p + 2)).1; omega
        · unfold tsC; omega
section OK
variable {T : Nat → Nat} {n h : Nat} {S : Nat → hPR}
theorem tm_ok (h1 : 1 ≤ h) (hS : ∀ p, p ≤ n → okP n h p (S p)) (p : Nat) : ∀ f a, okR n (h + 1) p a → okP n (h + 1) p (tmP T n S f a) := by
  intro f
  induction f with
  | zero => intro a ha; exact ha
  | succ f ih =>
    intro a ha
    have e : tmP T n S (f + 1) a = if seeN T n a.1 = 38 then (match S (a.1 + 1) with | .inl q => .inl q | .inr b => tmP T n S f (b.1, a.2.1 ++ b.2.1 ++ [-2], fun F => a.2.2 F && b.2.2 F)) else .inr a := rfl
    rw [e]
    obtain ⟨a1, a2, a3, a4⟩ := ha
    by_cases c : seeN T n a.1 = 38
    · rw [if_pos c]
      have l := see_lt c (by decide)
      have hs := hS (a.1 + 1) l
      cases hr : S (a.1 + 1) with
      | inl q => rw [hr] at hs; obtain ⟨s1, s2⟩ := hs; exact ⟨by omega, s2⟩
      | inr b =>
        rw [hr] at hs
        obtain ⟨s1, s2, s3, s4⟩ := hs
        refine ih _ ⟨by show p < b.1; omega, s2, ?_, ?_⟩
        · show (a.2.1 ++ b.2.1 ++ [-2]).length + p ≤ b.1
          rw [List.length_append, List.length_append]
          show a.2.1.length + b.2.1.length + 1 + p ≤ b.1
          omega
        · have := gd_bin (op := fun b c => b && c) wf_2 (fun F o b c ho => stp_2 F ho b c) h1 a4 s4
          rw [Nat.max_self] at this
          exact this
    · rw [if_neg c]; exact ⟨a1, a2, a3, a4⟩
theorem et_ok (h1 : 1 ≤ h) (hS : ∀ p, p ≤ n → okP n h p (S p)) (p : Nat) (hp : p ≤ n) : okP n (h + 1) p (eiT T n S p) := by
  unfold eiT
  have hs := hS p hp
  cases hr : S p with
  | inl q => rw [hr] at hs; exact hs
  | inr a =>
    rw [hr] at hs
    obtain ⟨s1, s2, s3, s4⟩ := hs
    exact tm_ok h1 hS p 101 a ⟨s1, s2, s3, gd_mono (by omega) s4⟩
theorem el_ok (h1 : 1 ≤ h) (hS : ∀ p, p ≤ n → okP n h p (S p)) (p : Nat) : ∀ f a, okR n (h + 2) p a → okP n (h + 2) p (eiL T n S f a) := by
  intro f
  induction f with
  | zero => intro a ha; exact ha
  | succ f ih =>
    intro a ha
    have e : eiL T n S (f + 1) a = if seeN T n a.1 = 124 then (match eiT T n S (a.1 + 1) with | .inl q => .inl q | .inr b => eiL T n S f (b.1, a.2.1 ++ b.2.1 ++ [-3], fun F => a.2.2 F || b.2.2 F)) else .inr a := rfl
    rw [e]
    obtain ⟨a1, a2, a3, a4⟩ := ha
    by_cases c : seeN T n a.1 = 124
    · rw [if_pos c]
      have l := see_lt c (by decide)
      have hs := et_ok (T := T) h1 hS (a.1 + 1) l
      cases hr : eiT T n S (a.1 + 1) with
      | inl q => rw [hr] at hs; obtain ⟨s1, s2⟩ := hs; exact ⟨by omega, s2⟩
      | inr b =>
        rw [hr] at hs
        obtain ⟨s1, s2, s3, s4⟩ := hs
        refine ih _ ⟨by show p < b.1; omega, s2, ?_, ?_⟩
        · show (a.2.1 ++ b.2.1 ++ [-3]).length + p ≤ b.1
          rw [List.length_append, List.length_append]
          show a.2.1.length + b.2.1.length + 1 + p ≤ b.1
          omega
        · have := gd_bin (op := fun b c => b || c) wf_3 (fun F o b c _ => stp_3 F o b c) (by omega) a4 s4
          rw [Nat.max_self] at this
          exact this
    · rw [if_neg c]; exact ⟨a1, a2, a3, a4⟩
theorem ei_ok (h1 : 1 ≤ h) (hS : ∀ p, p ≤ n → okP n h p (S p)) (p : Nat) (hp : p ≤ n) : okP n (h + 2) p (eiP T n S p) := by
  unfold eiP
  have hs := et_ok (T := T) h1 hS p hp
  cases hr : eiT T n S p with
  | inl q => rw [hr] at hs; exact hs
  | inr a =>
    rw [hr] at hs
    obtain ⟨s1, s2, s3, s4⟩ := hs
    exact el_ok h1 hS p 101 a ⟨s1, s2, s3, gd_mono (by omega) s4⟩
theorem sg_ok : ∀ r p, p ≤ n → okP n (1 + 2 * r) p (sgP T n r p) := by
  intro r
  induction r with
  | zero =>
    intro p hp
    have e : sgP T n 0 p = if seeN T n p = 33 ∨ seeN T n p = 40 then .inl p else tsP T n p := rfl
    rw [e]
    by_cases c : seeN T n p = 33 ∨ seeN T n p = 40
    · rw [if_pos c]; exact ⟨Nat.le_refl p, hp⟩
    · rw [if_neg c]; exact ts_ok hp
  | succ r ih =>
    intro p hp
    have e : sgP T n (r + 1) p = if seeN T n p = 33 then ntP (sgP T n r (p + 1)) else if seeN T n p = 40 then prP T n (eiP T n (sgP T n r) (p + 1)) else tsP T n p := rfl
    rw [e]
    by_cases c : seeN T n p = 33
    · rw [if_pos c]
      have l := see_lt c (by decide)
      have hs := ih (p + 1) l
      cases hr : sgP T n r (p + 1) with
      | inl q => rw [hr] at hs; obtain ⟨s1, s2⟩ := hs; exact ⟨by omega, s2⟩
      | inr a =>
        rw [hr] at hs
        obtain ⟨s1, s2, s3, s4⟩ := hs
        refine ⟨by show p < a.1; omega, s2, ?_, gd_mono (by omega) (gd_not (by omega) s4)⟩
        show (a.2.1 ++ [-1]).length + p ≤ a.1
        rw [List.length_append]
        show a.2.1.length + 1 + p ≤ a.1
        omega
    · rw [if_neg c]
      by_cases c2 : seeN T n p = 40
      · rw [if_pos c2]
        have l := see_lt c2 (by decide)
        have hs := ei_ok (T := T) (by omega) ih (p + 1) l
        cases hr : eiP T n (sgP T n r) (p + 1) with
        | inl q => rw [hr] at hs; obtain ⟨s1, s2⟩ := hs; exact ⟨by omega, s2⟩
        | inr a =>
          rw [hr] at hs
          obtain ⟨s1, s2, s3, s4⟩ := hs
          show okP n (1 + 2 * (r + 1)) p (if seeN T n a.1 = 41 then .inr (a.1 + 1, a.2.1, a.2.2) else .inl a.1)
          by_cases c3 : seeN T n a.1 = 41
          · have l3 := see_lt c3 (by decide)
            rw [if_pos c3]
            refine ⟨by show p < a.1 + 1; omega, l3, ?_, gd_mono (by omega) s4⟩
            show a.2.1.length + p ≤ a.1 + 1
            omega
          · rw [if_neg c3]; exact ⟨by omega, s2⟩
      · rw [if_neg c2]
        have := ts_ok (T := T) hp
        cases hr : tsP T n p with
        | inl q => rw [hr] at this; exact this
        | inr a => rw [hr] at this; exact ⟨this.1, this.2.1, this.2.2.1, gd_mono (by omega) this.2.2.2⟩
end OK
