-- bits as the code tells them
theorem one_shl {i : Nat} (h : i < 32) : (1 : Int32) <<< (nI i &&& 31) = nI (2 ^ i) := by
  rw [show (1 : Int32) = nI 1 from rfl, tI_shl h, Nat.one_mul]
theorem bt_v {S i : Nat} (hS : S < 2 ^ 31) (h : i < 32) : (nI S >>> (nI i &&& 31)) &&& 1 = nI (if S.testBit i then 1 else 0) := by
  rw [tI_shr hS h, show (1 : Int32) = nI 1 from rfl, tI_and, Nat.and_one_is_mod, Nat.testBit_eq_decide_div_mod_eq]
  have : S / 2 ^ i % 2 < 2 := Nat.mod_lt _ (by decide)
  rcases (show S / 2 ^ i % 2 = 0 ∨ S / 2 ^ i % 2 = 1 by omega) with e | e <;> rw [e] <;> rfl
theorem bt_0 {S i : Nat} (hS : S < 2 ^ 31) (h : i < 32) : ((nI S >>> (nI i &&& 31)) &&& 1 = 0) ↔ S.testBit i = false := by
  rw [bt_v hS h]
  cases S.testBit i
  · exact ⟨fun _ => rfl, fun _ => rfl⟩
  · exact ⟨fun q => absurd q (by decide), fun q => absurd q (by decide)⟩
theorem bt_1 {S i : Nat} (hS : S < 2 ^ 31) (h : i < 32) : ((nI S >>> (nI i &&& 31)) &&& 1 = 1) ↔ S.testBit i = true := by
  rw [bt_v hS h]
  cases S.testBit i
  · exact ⟨fun q => absurd q (by decide), fun q => absurd q (by decide)⟩
  · exact ⟨fun _ => rfl, fun _ => rfl⟩
theorem tb_2 (i j : Nat) : (2 ^ i).testBit j = decide (i = j) := by rw [Nat.testBit_two_pow]
theorem tb_or2 (S i j : Nat) : (S ||| 2 ^ i).testBit j = (S.testBit j || decide (i = j)) := by rw [Nat.testBit_or, tb_2]
theorem lt_or2 {S i n : Nat} (hS : S < 2 ^ n) (hi : i < n) : S ||| 2 ^ i < 2 ^ n := Nat.or_lt_two_pow hS (Nat.pow_lt_pow_right (by decide) hi)
theorem tb_hi {S n j : Nat} (hS : S < 2 ^ n) (hj : n ≤ j) : S.testBit j = false := Nat.testBit_lt_two_pow (Nat.lt_of_lt_of_le hS (Nat.pow_le_pow_right (by decide) hj))
theorem tb_ext {S T n : Nat} (hS : S < 2 ^ n) (hT : T < 2 ^ n) (h : ∀ i, i < n → S.testBit i = T.testBit i) : S = T := by
  apply Nat.eq_of_testBit_eq
  intro i
  rcases Nat.lt_or_ge i n with q | q
  · exact h i q
  · rw [tb_hi hS q, tb_hi hT q]
theorem tb_full (n i : Nat) : (2 ^ n - 1).testBit i = decide (i < n) := Nat.testBit_two_pow_sub_one n i
/-- S without T -/
def mns (S T : Nat) : Nat := S &&& (T ^^^ 4294967295)
theorem mns_I (S T : Nat) : nI S &&& (nI T ^^^ (-1)) = nI (mns S T) := by rw [tI_m1, tI_xor, tI_and]; rfl
theorem mns_b {S : Nat} (hS : S < 2 ^ 32) (T i : Nat) : (mns S T).testBit i = (S.testBit i && !T.testBit i) := by
  unfold mns
  rw [Nat.testBit_and, Nat.testBit_xor, show (4294967295 : Nat) = 2 ^ 32 - 1 from rfl, tb_full]
  by_cases h : i < 32
  · simp [h]
  · rw [tb_hi hS (by omega)]; simp
theorem mns_lt {S n : Nat} (hS : S < 2 ^ n) (T : Nat) : mns S T < 2 ^ n := Nat.lt_of_le_of_lt Nat.and_le_left hS
theorem nI_and0 {a b : Nat} (ha : a < 2 ^ 31) : (nI a &&& nI b = 0) ↔ a &&& b = 0 := by
  rw [tI_and]
  exact nI_eq (Nat.lt_of_le_of_lt Nat.and_le_left ha) (by decide)
theorem and0_iff {a b : Nat} : a &&& b = 0 ↔ ∀ i, ¬ (a.testBit i = true ∧ b.testBit i = true) := by
  constructor
  · intro h i q
    have : (a &&& b).testBit i = true := by rw [Nat.testBit_and, q.1, q.2]; rfl
    rw [h] at this
    simp at this
  · intro h
    apply Nat.eq_of_testBit_eq
    intro i
    rw [Nat.testBit_and, Nat.zero_testBit]
    cases h1 : a.testBit i <;> cases h2 : b.testBit i <;> simp
    exact h i ⟨h1, h2⟩
noncomputable def bo (p : Prop) : Bool := @decide p (Classical.propDecidable p)
theorem bo_t {p : Prop} : bo p = true ↔ p := @decide_eq_true_iff p (Classical.propDecidable p)
theorem bo_f {p : Prop} : bo p = false ↔ ¬ p := @decide_eq_false_iff_not p (Classical.propDecidable p)
theorem bo_e {p q : Prop} (h : p ↔ q) : bo p = bo q := by rw [show p = q from propext h]
-- WHERE A VOICE GOES
/-- a hand as it is now: kind (1 self), names, tenths -/
abbrev hEH : Type := Nat → Nat × Nat × Nat × Nat
def ehD (D : hD) (m w : Nat) : hEH := fun a => if w < D 2 (8 * m + a) ∧ 2 ≤ D 1 (8 * m + a) then (D 1 (8 * m + a), D 3 (8 * m + a), D 4 (8 * m + a), D 5 (8 * m + a)) else (1, 9, 9, 0)
def ehS (S : Nat) (h : hEH) : hEH := fun a => if S.testBit a then (1, 9, 9, 0) else h a
def ehG (g t : Nat) (h : hEH) : hEH := fun a => if a = g then (2, t, 9, 10) else h a
/-- what they know beside: how many, how sure, who bars whom -/
abbrev hPF : Type := Nat × (Nat → Nat) × (Nat → Nat → Bool)
def pfD (D : hD) (hb : hB) (m : Nat) : hPF := (D 0 0, fun a => D 6 (8 * m + a), fun a b => bar D hb m a b)
def ehW (P : hPF) (h : hEH) : Prop := ∀ a, a < P.1 → (h a).1 = 1 ∨ ((h a).1 = 2 ∧ (h a).2.1 < P.1 ∧ (h a).2.1 ≠ a ∧ (h a).2.2.2 = 10) ∨ ((h a).1 = 3 ∧ (h a).2.1 < P.1 ∧ (h a).2.1 ≠ a ∧ (h a).2.2.1 < P.1 ∧ (h a).2.2.1 ≠ a ∧ (h a).2.1 ≠ (h a).2.2.1 ∧ (h a).2.2.2 = 10) ∨ ((h a).1 = 4 ∧ (h a).2.1 < P.1 ∧ (h a).2.1 ≠ a ∧ (h a).2.2.1 < P.1 ∧ (h a).2.2.1 ≠ a ∧ (h a).2.1 ≠ (h a).2.2.1 ∧ 1 ≤ (h a).2.2.2 ∧ (h a).2.2.2 ≤ 9) ∨ (h a).1 = 5
/-- the surest of those that are ok, the least of several -/
def sst (q : Nat → Nat) (ok : Nat → Bool) : Nat → Option Nat
  | 0 => none
  | k + 1 => if ok k then (match sst q ok k with | none => some k | some b => if q b < q k then some k else some b) else sst q ok k
theorem sst_ok {q : Nat → Nat} {ok : Nat → Bool} : ∀ {n b : Nat}, sst q ok n = some b → b < n ∧ ok b = true := by
  intro n
  induction n with
  | zero => intro b h; cases h
  | succ k ih =>
    intro b h
    unfold sst at h
    by_cases hk : ok k = true
    · rw [if_pos hk] at h
      cases hs : sst q ok k with
      | none => rw [hs] at h; cases h; exact ⟨Nat.lt_succ_self _, hk⟩
      | some c =>
        rw [hs] at h
        have h2 : (if q c < q k then some k else some c) = some b := h
        split at h2
        · cases h2; exact ⟨Nat.lt_succ_self _, hk⟩
        · cases h2; exact ⟨Nat.lt_succ_of_lt (ih hs).1, (ih hs).2⟩
    · rw [if_neg hk] at h
      exact ⟨Nat.lt_succ_of_lt (ih h).1, (ih h).2⟩
def pt (t v b : Nat) : Nat := if b = t then v else 0
def tg (P : hPF) (a b : Nat) : Nat := if P.2.2 a b then a else b
def bld (P : hPF) (a : Nat) : Option Nat := sst P.2.1 (fun b => decide (b ≠ a) && !P.2.2 a b) P.1
/-- tenths from a to b, orders by the first name that isn't barred -/
def G0 (P : hPF) (h : hEH) (a b : Nat) : Nat := match (h a).1 with
  | 2 => pt (tg P a (h a).2.1) 10 b
  | 3 => pt (tg P a (if P.2.2 a (h a).2.1 then (h a).2.2.1 else (h a).2.1)) 10 b
  | 4 => pt (tg P a (h a).2.1) (h a).2.2.2 b + pt (tg P a (h a).2.2.1) (10 - (h a).2.2.2) b
  | 5 => pt ((bld P a).getD a) 10 b
  | _ => pt a 10 b
def isO (h : hEH) (a : Nat) : Bool := (h a).1 == 3
def nmY (h : hEH) (y a : Nat) : Nat := if y.testBit a then (h a).2.2.1 else (h a).2.1
/-- orders by a way -/
def GW (P : hPF) (h : hEH) (y a b : Nat) : Nat := if isO h a then pt (nmY h y a) 10 b else G0 P h a b
/-- a way leads to one that speaks -/
def rch (n : Nat) (G : Nat → Nat → Nat) : Nat → Nat → Prop
  | 0, a => 0 < G a a
  | k + 1, a => rch n G k a ∨ ∃ b, b < n ∧ 0 < G a b ∧ rch n G k b
def Rch (n : Nat) (G : Nat → Nat → Nat) (a : Nat) : Prop := ∃ k, rch n G k a
def allR (n : Nat) (G : Nat → Nat → Nat) : Prop := ∀ a, a < n → Rch n G a
def ordM (P : hPF) (h : hEH) : Nat := msk (isO h) P.1
noncomputable def okY (P : hPF) (h : hEH) (y : Nat) : Bool := bo (y &&& ordM P h = y ∧ (∀ a, a < P.1 → isO h a = true → P.2.2 a (nmY h y a) = false) ∧ allR P.1 (GW P h y))
def pop : Nat → Nat → Nat
  | 0, _ => 0
  | k + 1, S => pop k S + if S.testBit k then 1 else 0
/-- the best of the ways below k; how many they are -/
noncomputable def bstY (P : hPF) (h : hEH) : Nat → Option Nat
  | 0 => none
  | y + 1 => if okY P h y then (match bstY P h y with | none => some y | some z => if pop 8 y < pop 8 z then some y else some z) else bstY P h y
noncomputable def cntY (P : hPF) (h : hEH) : Nat → Nat
  | 0 => 0
  | y + 1 => cntY P h y + if okY P h y then 1 else 0
noncomputable def bst (P : hPF) (h : hEH) : Option Nat := bstY P h (ordM P h + 1)
noncomputable def cnt (P : hPF) (h : hEH) : Nat := cntY P h (ordM P h + 1)
/-- tenths from a to b -/
noncomputable def GG (P : hPF) (ring : Nat) (h : hEH) (a b : Nat) : Nat := if ring = 0 then G0 P h a b else match bst P h with
  | none => G0 P h a b
  | some y => GW P h y a b
theorem rch_mono {n : Nat} {G : Nat → Nat → Nat} {k a : Nat} (h : rch n G k a) : ∀ j, k ≤ j → rch n G j a := by
  intro j
  induction j with
  | zero => intro hj; have : k = 0 := by omega
            subst this; exact h
  | succ j ih =>
    intro hj
    by_cases e : k = j + 1
    · subst e; exact h
    · exact Or.inl (ih (by omega))
theorem Rch_step {n : Nat} {G : Nat → Nat → Nat} {a b : Nat} (hb : b < n) (hg : 0 < G a b) (h : Rch n G b) : Rch n G a := by
  obtain ⟨k, hk⟩ := h
  exact ⟨k + 1, Or.inr ⟨b, hb, hg, hk⟩⟩
/-- a set that is closed holds all from which a way leads -/
theorem Rch_in {n : Nat} {G : Nat → Nat → Nat} (S : Nat → Prop) (h0 : ∀ a, a < n → 0 < G a a → S a) (hs : ∀ a b, a < n → b < n → 0 < G a b → S b → S a) : ∀ a, a < n → Rch n G a → S a := by
  intro a ha ⟨k, hk⟩
  induction k generalizing a with
  | zero => exact h0 a ha hk
  | succ k ih =>
    rcases hk with hk | ⟨b, hb, hg, hk⟩
    · exact ih a ha hk
    · exact hs a b ha hb hg (ih b hb hk)
