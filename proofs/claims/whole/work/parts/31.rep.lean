-- WHAT BOTH HOLD: D by rows of numbers, hb whom a hall bars, It what lies on the tapes
/-- rows: 0 members, now, halls, cap, n, d, ring b, fed; 1 kind, 2 minute, 3 4 names (9: none), 5 tenths, 6 sure, 7 yes (by 8 * matter + member); 8 the text; 9 bodies, then their numbers; 10 sort + 1, 11 size of tapes -/
abbrev hD : Type := Nat → Nat → Nat
abbrev hB : Type := Nat → Nat → Nat → Nat → Nat → Bool
abbrev hT : Type := Nat → Nat → Int64
def aU (D : hD) (a b v : Nat) : hD := fun a' b' => if a' = a ∧ b' = b then v else D a' b'
/-- a name as the class and the reference tell it -/
def nmX (v : Nat) : Int32 := if v = 9 then -5 else nI v
def nmM (v : Nat) : Int32 := if v = 9 then -1 else nI v
def hnd (D : hD) (c : Nat) : Prop := D 1 c ≤ 5 ∧ D 2 c ≤ 100 ∧ D 5 c ≤ 10 ∧ D 6 c ≤ 10 ∧ D 7 c ≤ 1 ∧
  ((D 1 c ≤ 1 ∨ D 1 c = 5) ∧ D 3 c = 9 ∧ D 4 c = 9 ∨ D 1 c = 2 ∧ D 3 c < D 0 0 ∧ D 3 c ≠ c % 8 ∧ D 4 c = 9 ∧ D 5 c = 10 ∨ (D 1 c = 3 ∧ D 5 c = 10 ∨ D 1 c = 4 ∧ 1 ≤ D 5 c ∧ D 5 c ≤ 9) ∧ D 3 c < D 0 0 ∧ D 4 c < D 0 0 ∧ D 3 c ≠ c % 8 ∧ D 4 c ≠ c % 8 ∧ D 3 c ≠ D 4 c)
def hnd0 (D : hD) (c : Nat) : Prop := D 1 c = 1 ∧ D 2 c = 100 ∧ D 3 c = 9 ∧ D 4 c = 9 ∧ D 5 c = 0 ∧ D 6 c = 5 ∧ D 7 c = 0
/-- the numbers are as told -/
def hWF (D : hD) : Prop := D 0 0 ≤ 8 ∧ D 0 1 ≤ 99 ∧ D 0 2 ≤ 100000 ∧ D 0 3 ≤ 999 ∧ D 0 4 ≤ 999 ∧ 1 ≤ D 0 5 ∧ D 0 5 ≤ 999 ∧ D 0 6 ≤ 1 ∧ D 0 7 ≤ 100 ∧
  (∀ c, c < 24 → hnd D c) ∧ (∀ c, c < 24 → D 0 0 ≤ c % 8 → hnd0 D c) ∧ (∀ k, k < D 0 7 → D 8 k < 256) ∧ D 9 0 ≤ 100 ∧ (∀ t, t < 6 → D 10 t ≤ 5 ∧ D 11 t ≤ 60 ∧ (D 10 t = 0 → D 11 t = 0))
-- the class: its groups of cells
def rxH (D : hD) (σ : hv_S) : Prop := σ.1 1 7 = nI (D 0 0) ∧ σ.1 1 8 = nI (D 0 1) ∧ (∀ m, m < 3 → σ.1 2 m = nI (msk (fun i => D 7 (8 * m + i) == 1) 8)) ∧
  ∀ c, c < 24 → σ.1 3 c = nI (D 6 c) ∧ σ.1 4 c = nI (D 1 c) ∧ σ.1 5 c = nI (D 2 c) ∧ σ.1 6 c = nmX (D 3 c) ∧ σ.1 7 c = nmX (D 4 c) ∧ σ.1 8 c = nI (D 5 c)
def rxT (D : hD) (σ : hv_S) : Prop := σ.1 9 1 = nI (D 0 7) ∧ ∀ k, k < D 0 7 → σ.1 10 k = nI (D 8 k)
/-- the two Rules: one is drafted, one rules -/
def rxR (σ : hv_S) : Prop := (σ.2.2 9 5 = 11 ∧ σ.2.2 15 3 = 13) ∨ (σ.2.2 9 5 = 13 ∧ σ.2.2 15 3 = 11)
/-- a step of a bar, over facts: what is open behind it (bits) -/
def stp (f : Nat → Nat) (x : Int32) (o : Nat) : Nat :=
  if x < 0 then (if x = -1 then o ^^^ 1 else if x = -3 then (o / 2) ||| (o % 2) else (o / 2) &&& (o % 2 ||| 4294967294))
  else let v := x.toNatClampNeg; let n := v % 1000; let s := v / 1000 % 3; let q := v / 3000
    o * 2 ||| (if q < 5 ∧ (s = 0 ∧ f q < n ∨ s = 1 ∧ f q = n ∨ s = 2 ∧ n < f q) then 1 else 0)
def runs (f : Nat → Nat) (code : Nat → Int32) : Nat → Nat
  | 0 => 0
  | k + 1 => stp f (code k) (runs f code k)
def fct (a b m s q : Nat) : Nat → Nat := fun k => if k = 0 then a else if k = 1 then b else if k = 2 then m else if k = 3 then s else q
/-- the rules at r say hb: their steps, run over any facts, and never more than sixteen are open -/
def rul (D : hD) (hb : hB) (r : Nat) (σ : hv_S) : Prop := σ.1 r 2 = nI (D 0 3) ∧ σ.1 r 3 = nI (D 0 4) ∧ σ.1 r 4 = nI (D 0 5) ∧ σ.1 r 5 = nI (D 0 6) ∧
  ∃ L : Nat, L ≤ 100 ∧ σ.1 r 1 = nI L ∧ (∀ k, k < L → σ.1 (r + 1) k < 0 → σ.1 (r + 1) k = -1 ∨ σ.1 (r + 1) k = -2 ∨ σ.1 (r + 1) k = -3) ∧ (∀ k, k < L → ¬ σ.1 (r + 1) k < 0 → (σ.1 (r + 1) k).toNatClampNeg < 15000) ∧
    ∀ a b m s q : Nat, a < 8 → b < 8 → m < 3 → s ≤ 10 → q ≤ 10 → (∀ k, k ≤ L → runs (fct a b m s q) (fun j => σ.1 (r + 1) j) k < 65536) ∧ (hb a b m s q = true ↔ runs (fct a b m s q) (fun j => σ.1 (r + 1) j) L ≠ 0)
def bar (D : hD) (hb : hB) (m a b : Nat) : Bool := hb a b m (D 6 (8 * m + b)) (D 6 (8 * m + a))
def rxL (D : hD) (hb : hB) (σ : hv_S) : Prop := rxR σ ∧ σ.1 15 4 = nI (D 0 2) ∧ rul D hb (σ.2.2 15 3) σ ∧ ∀ m a, m < 3 → a < 8 → σ.1 16 (8 * m + a) = nI (msk (fun b => bar D hb m a b) 8)
def rxA (D : hD) (σ : hv_S) : Prop := σ.1 37 1 = nI (D 9 0) ∧ ∀ k, k < D 9 0 → k < 20 → σ.1 38 k = nI (D 9 (1 + k))
def rxP (D : hD) (It : hT) (σ : hv_S) : Prop := (∀ t, t < 6 → σ.1 40 t = nI (D 10 t) - 1 ∧ σ.1 41 t = nI (D 11 t)) ∧ ∀ t i, t < 6 → i < D 11 t → σ.2.1 42 (60 * t + i) = It t i
def RX (D : hD) (hb : hB) (It : hT) (σ : hv_S) : Prop := rxH D σ ∧ rxT D σ ∧ rxL D hb σ ∧ rxA D σ ∧ rxP D It σ
-- what each group looks at
def eqI (ks : List Nat) (σ σ' : hv_S) : Prop := ∀ k, k ∈ ks → ∀ j, σ'.1 k j = σ.1 k j
theorem rxH_of {D : hD} {σ σ' : hv_S} (h : rxH D σ) (e : eqI [1, 2, 3, 4, 5, 6, 7, 8] σ σ') : rxH D σ' := by
  obtain ⟨h1, h2, h3, h4⟩ := h
  refine ⟨by rw [e 1 (by decide)]; exact h1, by rw [e 1 (by decide)]; exact h2, fun m hm => by rw [e 2 (by decide)]; exact h3 m hm, fun c hc => ?_⟩
  obtain ⟨g1, g2, g3, g4, g5, g6⟩ := h4 c hc
  exact ⟨by rw [e 3 (by decide)]; exact g1, by rw [e 4 (by decide)]; exact g2, by rw [e 5 (by decide)]; exact g3, by rw [e 6 (by decide)]; exact g4, by rw [e 7 (by decide)]; exact g5, by rw [e 8 (by decide)]; exact g6⟩
theorem rxT_of {D : hD} {σ σ' : hv_S} (h : rxT D σ) (e : eqI [9, 10] σ σ') : rxT D σ' := ⟨by rw [e 9 (by decide)]; exact h.1, fun k hk => by rw [e 10 (by decide)]; exact h.2 k hk⟩
theorem rul_of {D : hD} {hb : hB} {r : Nat} {σ σ' : hv_S} (h : rul D hb r σ) (e : eqI [r, r + 1] σ σ') : rul D hb r σ' := by
  obtain ⟨h1, h2, h3, h4, L, h5, h6, h7, h8, h9⟩ := h
  have e0 : ∀ j, σ'.1 r j = σ.1 r j := e r (by simp)
  have e1 : (σ'.1 (r + 1)) = σ.1 (r + 1) := funext (e (r + 1) (by simp))
  exact ⟨by rw [e0]; exact h1, by rw [e0]; exact h2, by rw [e0]; exact h3, by rw [e0]; exact h4, L, h5, by rw [e0]; exact h6, by rw [e1]; exact h7, by rw [e1]; exact h8, by rw [e1]; exact h9⟩
theorem rxL_of {D : hD} {hb : hB} {σ σ' : hv_S} (h : rxL D hb σ) (e : eqI [11, 12, 13, 14, 15, 16] σ σ') (er : σ'.2.2 = σ.2.2) : rxL D hb σ' := by
  obtain ⟨h1, h2, h3, h4⟩ := h
  refine ⟨by unfold rxR at *; rw [er]; exact h1, by rw [e 15 (by decide)]; exact h2, ?_, fun m a hm ha => by rw [e 16 (by decide)]; exact h4 m a hm ha⟩
  rw [er]
  refine rul_of h3 ?_
  intro k hk j
  refine e k ?_ j
  rcases h1 with ⟨-, h⟩ | ⟨-, h⟩ <;> rw [h] at hk <;> simp at hk <;> rcases hk with rfl | rfl <;> decide
theorem rxA_of {D : hD} {σ σ' : hv_S} (h : rxA D σ) (e : eqI [37, 38] σ σ') : rxA D σ' := ⟨by rw [e 37 (by decide)]; exact h.1, fun k hk h2 => by rw [e 38 (by decide)]; exact h.2 k hk h2⟩
theorem rxP_of {D : hD} {It : hT} {σ σ' : hv_S} (h : rxP D It σ) (e : eqI [40, 41] σ σ') (el : ∀ j, σ'.2.1 42 j = σ.2.1 42 j) : rxP D It σ' := ⟨fun t ht => by rw [e 40 (by decide), e 41 (by decide)]; exact h.1 t ht, fun t i ht hi => by rw [el]; exact h.2 t i ht hi⟩
/-- all but the scratch of the class is as before -/
def XE (σ σ' : hv_S) : Prop := σ'.2.2 = σ.2.2 ∧ ∀ k, (k < 17 ∨ 35 < k) → (∀ j, σ'.1 k j = σ.1 k j) ∧ ∀ j, σ'.2.1 k j = σ.2.1 k j
theorem XE.refl (σ : hv_S) : XE σ σ := ⟨rfl, fun _ _ => ⟨fun _ => rfl, fun _ => rfl⟩⟩
theorem XE.trans {σ σ' σ'' : hv_S} (h : XE σ σ') (h2 : XE σ' σ'') : XE σ σ'' := ⟨h2.1.trans h.1, fun k hk => ⟨fun j => ((h2.2 k hk).1 j).trans ((h.2 k hk).1 j), fun j => ((h2.2 k hk).2 j).trans ((h.2 k hk).2 j)⟩⟩
theorem XE.eqI {σ σ' : hv_S} (h : XE σ σ') (ks : List Nat) (hk : ks.all (fun k => decide (k < 17 ∨ 35 < k)) = true) : eqI ks σ σ' := fun k hm j => (h.2 k (by have := List.all_eq_true.mp hk k hm; simpa using this)).1 j
theorem RX.of {D : hD} {hb : hB} {It : hT} {σ σ' : hv_S} (h : RX D hb It σ) (e : XE σ σ') : RX D hb It σ' :=
  ⟨rxH_of h.1 (e.eqI _ (by decide)), rxT_of h.2.1 (e.eqI _ (by decide)), rxL_of h.2.2.1 (e.eqI _ (by decide)) e.1, rxA_of h.2.2.2.1 (e.eqI _ (by decide)), rxP_of h.2.2.2.2 (e.eqI _ (by decide)) (fun j => (e.2 42 (Or.inr (by decide))).2 j)⟩
theorem XE.ui {σ : hv_S} {k j : Nat} {v : Int32} (h : ¬ (k < 17 ∨ 35 < k)) : XE σ (hv_ui σ k j v) := ⟨rfl, fun k' hk => ⟨fun j' => if_neg (fun (q : k' = k ∧ j' = j) => h (q.1 ▸ hk)), fun _ => rfl⟩⟩
theorem XE.ul {σ : hv_S} {k j : Nat} {v : Int64} (h : ¬ (k < 17 ∨ 35 < k)) : XE σ (hv_ul σ k j v) := ⟨rfl, fun k' hk => ⟨fun _ => rfl, fun j' => if_neg (fun (q : k' = k ∧ j' = j) => h (q.1 ▸ hk))⟩⟩
