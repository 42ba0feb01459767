-- THE REFERENCE: what it holds
def sxI (b : Nat) : Int32 := if b < 128 then nI b else nI b - 256
def rmH (D : hD) (σ : hv_S) : Prop := σ.1 60 0 = nI (D 0 0) ∧ σ.1 60 1 = nI (D 0 1) ∧ (∀ c, c < 24 → σ.1 67 c = nI (D 7 c)) ∧ (∀ c, c < 24 → ∃ s, s ≤ 10 ∧ σ.1 66 c = nI s) ∧
  ∀ m a, m < 3 → a < D 0 0 → σ.1 66 (8 * m + a) = nI (D 6 (8 * m + a)) ∧ σ.1 61 (8 * m + a) = nI (D 1 (8 * m + a)) ∧ σ.1 62 (8 * m + a) = nI (D 2 (8 * m + a)) ∧ σ.1 63 (8 * m + a) = nmM (D 3 (8 * m + a)) ∧ σ.1 64 (8 * m + a) = nmM (D 4 (8 * m + a)) ∧ σ.1 65 (8 * m + a) = nI (D 5 (8 * m + a))
def rmT (D : hD) (σ : hv_S) : Prop := σ.1 60 10 = nI (D 0 7) ∧ ∀ k, k < D 0 7 → σ.1 68 (100 + k) = sxI (D 8 k)
def rmL (D : hD) (hb : hB) (σ : hv_S) : Prop := σ.1 60 9 = nI (D 0 2) ∧ σ.1 60 19 = nI (D 0 3) ∧ σ.1 60 20 = nI (D 0 4) ∧ σ.1 60 21 = nI (D 0 5) ∧ σ.1 60 22 = (if D 0 6 = 0 then 108 else 98) ∧
  (D 0 2 = 0 ∧ (∀ a b m s q, hb a b m s q = false) ∨ 0 < D 0 2 ∧ ∃ (T : Nat → Nat) (n : Nat) (s : hHs), n ≤ 100 ∧ (∀ k, k < n → T k < 256) ∧ σ.1 69 0 = nI n ∧ (∀ k, k < n → σ.1 68 k = sxI (T k)) ∧ rdH T n = .inr s ∧ ∀ a b m x y, hb a b m x y = s.2.2 (fct a b m x y))
def rmB (D : hD) (hb : hB) (σ : hv_S) : Prop := (∀ j, j < 5 → ∃ f, f < 1000 ∧ σ.1 70 j = nI f) ∧ (σ.1 60 24 = 0 ∨ σ.1 60 24 = 1 ∧ ∀ m a b, m < 3 → a < D 0 0 → b < D 0 0 → σ.1 71 (64 * m + 8 * a + b) = bI (bar D hb m a b))
def rmA (D : hD) (σ : hv_S) : Prop := σ.1 60 46 = nI (D 9 0) ∧ ∀ k, k < D 9 0 → k < 20 → σ.1 79 k = nI (D 9 (1 + k))
def rmP (D : hD) (It : hT) (σ : hv_S) : Prop := (∀ t, t < 6 → σ.1 80 t = nI (D 10 t) - 1 ∧ σ.1 81 t = nI (D 11 t)) ∧ ∀ t i, t < 6 → i < D 11 t → σ.2.1 82 (60 * t + i) = It t i
def RM (D : hD) (hb : hB) (It : hT) (σ : hv_S) : Prop := rmH D σ ∧ rmT D σ ∧ rmL D hb σ ∧ rmB D hb σ ∧ rmA D σ ∧ rmP D It σ
/-- all but scratch and what is known of bars is as before -/
def ME (σ σ' : hv_S) : Prop := (∀ k, (61 ≤ k ∧ k ≤ 68 ∨ 77 ≤ k ∧ k ≤ 81) → ∀ j, σ'.1 k j = σ.1 k j) ∧ σ'.1 69 0 = σ.1 69 0 ∧ (∀ j, (j ≤ 1 ∨ 9 ≤ j ∧ j ≤ 10 ∨ 19 ≤ j ∧ j ≤ 22 ∨ j = 46) → σ'.1 60 j = σ.1 60 j) ∧ ∀ j, σ'.2.1 82 j = σ.2.1 82 j
theorem ME.refl (σ : hv_S) : ME σ σ := ⟨fun _ _ _ => rfl, rfl, fun _ _ => rfl, fun _ => rfl⟩
theorem ME.trans {σ σ' σ'' : hv_S} (h : ME σ σ') (h2 : ME σ' σ'') : ME σ σ'' := ⟨fun k hk j => (h2.1 k hk j).trans (h.1 k hk j), h2.2.1.trans h.2.1, fun j hj => (h2.2.2.1 j hj).trans (h.2.2.1 j hj), fun j => (h2.2.2.2 j).trans (h.2.2.2 j)⟩
theorem ME.ui {σ : hv_S} {k j : Nat} {v : Int32} (h : ¬ (61 ≤ k ∧ k ≤ 68 ∨ 77 ≤ k ∧ k ≤ 81)) (h69 : k ≠ 69) (h60 : k ≠ 60 ∨ ¬ (j ≤ 1 ∨ 9 ≤ j ∧ j ≤ 10 ∨ 19 ≤ j ∧ j ≤ 22 ∨ j = 46)) : ME σ (hv_ui σ k j v) := by
  refine ⟨fun k' hk j' => ?_, ?_, fun j' hj => ?_, fun j' => rfl⟩
  · rw [ui_1, if_neg (fun (z : k' = k ∧ j' = j) => h (z.1 ▸ hk))]
  · rw [ui_1, if_neg (fun (z : 69 = k ∧ 0 = j) => h69 z.1.symm)]
  · rw [ui_1, if_neg (fun (z : 60 = k ∧ j' = j) => h60.elim (fun c => c z.1.symm) (fun c => c (z.2 ▸ hj)))]
theorem ME.ul {σ : hv_S} {k j : Nat} {v : Int64} (h : k ≠ 82) : ME σ (hv_ul σ k j v) := ⟨fun _ _ _ => rfl, rfl, fun _ _ => rfl, fun j' => if_neg (fun (q : 82 = k ∧ j' = j) => h q.1.symm)⟩
theorem rmB.of {D : hD} {hb : hB} {σ σ' : hv_S} (h : rmB D hb σ) (h1 : σ'.1 60 24 = σ.1 60 24) (h2 : ∀ j, σ'.1 71 j = σ.1 71 j) (h4 : ∀ j, σ'.1 70 j = σ.1 70 j) : rmB D hb σ' := by
  obtain ⟨h0, h⟩ := h
  refine ⟨fun j hj => by rw [h4]; exact h0 j hj, ?_⟩
  rcases h with h | ⟨h, h3⟩
  · exact Or.inl (h1.trans h)
  · exact Or.inr ⟨h1.trans h, fun m a b hm ha hb' => (h2 _).trans (h3 m a b hm ha hb')⟩
theorem RM.of {D : hD} {hb : hB} {It : hT} {σ σ' : hv_S} (h : RM D hb It σ) (e : ME σ σ') (hB' : rmB D hb σ') : RM D hb It σ' := by
  obtain ⟨⟨a1, a2, a3, a4, a5⟩, ⟨b1, b2⟩, ⟨c1, c2, c3, c4, c5, c6⟩, -, ⟨f1, f2⟩, ⟨g1, g2⟩⟩ := h
  obtain ⟨e1, e2, e3, e4⟩ := e
  refine ⟨⟨by rw [e3 0 (by decide)]; exact a1, by rw [e3 1 (by decide)]; exact a2, fun c hc => by rw [e1 67 (by decide)]; exact a3 c hc, fun c hc => by rw [e1 66 (by decide)]; exact a4 c hc, fun m a hm ha => ?_⟩, ⟨by rw [e3 10 (by decide)]; exact b1, fun k hk => by rw [e1 68 (by decide)]; exact b2 k hk⟩, ⟨by rw [e3 9 (by decide)]; exact c1, by rw [e3 19 (by decide)]; exact c2, by rw [e3 20 (by decide)]; exact c3, by rw [e3 21 (by decide)]; exact c4, by rw [e3 22 (by decide)]; exact c5, ?_⟩, hB', ⟨by rw [e3 46 (by decide)]; exact f1, fun k hk hk2 => by rw [e1 79 (by decide)]; exact f2 k hk hk2⟩, ⟨fun t ht => by rw [e1 80 (by decide), e1 81 (by decide)]; exact g1 t ht, fun t i ht hi => by rw [e4]; exact g2 t i ht hi⟩⟩
  · rw [e1 66 (by decide), e1 61 (by decide), e1 62 (by decide), e1 63 (by decide), e1 64 (by decide), e1 65 (by decide)]; exact a5 m a hm ha
  · rcases c6 with c6 | ⟨c7, T, n, s, d1, d2, d3, d4, d5⟩
    · exact Or.inl c6
    · exact Or.inr ⟨c7, T, n, s, d1, d2, by rw [e2]; exact d3, fun k hk => by rw [e1 68 (by decide)]; exact d4 k hk, d5⟩
section RA
variable {l : Launch} {e : hv_Ev} {σ : hv_S} {D : hD} {hb : hB} {It : hT}
theorem y_in {Φ : Int32 → hv_S → Prop} {x lo hi : Int32} (k0 : ¬ (lo ≤ x ∧ x ≤ hi) → Φ 0 σ) (k1 : lo ≤ x → x ≤ hi → Φ 1 σ) : hv_CI l (hv_e2 e) 0 m_X10_in [.ref 60, .int x, .int lo, .int hi] σ Φ :=
  B_X10_in _ _ _ ⟨fun q => k0 (fun z => Int32.not_le.mpr q z.1), fun q => ⟨fun q2 => k0 (fun z => Int32.not_le.mpr q2 z.2), fun q2 => k1 (Int32.not_lt.mp q) (Int32.not_lt.mp q2)⟩⟩
/-- x is a number below n: 0 .. n - 1 -/
theorem y_below {n : Nat} (hn : n < 2 ^ 31) (x : Int32) : (0 ≤ x ∧ x ≤ nI n - 1) ↔ ∃ a, a < n ∧ x = nI a := by
  cases n with
  | zero =>
    refine ⟨fun q => ?_, fun ⟨a, ha, _⟩ => absurd ha (Nat.not_lt_zero a)⟩
    exfalso
    have h1 := Int32.le_iff_toInt_le.mp q.1
    have h2 := Int32.le_iff_toInt_le.mp q.2
    rw [show (0 : Int32).toInt = 0 by decide] at h1
    rw [show (nI 0 - 1).toInt = -1 by decide] at h2
    omega
  | succ n =>
    rw [nI_pred]
    constructor
    · intro q
      rcases i32_cases x with c | ⟨k, hk, rfl⟩
      · exact absurd c (Int32.not_lt.mpr q.1)
      · exact ⟨k, by have := (nI_leI hk (by omega)).mp q.2; omega, rfl⟩
    · rintro ⟨a, ha, rfl⟩
      exact ⟨nI_pos' (by omega), nI_le (by omega) (by omega)⟩
theorem y_inN {Φ : Int32 → hv_S → Prop} {x hi : Int32} {n : Nat} (hn : n < 2 ^ 31) (hhi : hi = nI n - 1) (k0 : (∀ a, a < n → x ≠ nI a) → Φ 0 σ) (k1 : ∀ a, a < n → x = nI a → Φ 1 σ) : hv_CI l (hv_e2 e) 0 m_X10_in [.ref 60, .int x, .int 0, .int hi] σ Φ := by
  subst hhi
  refine y_in (fun q => k0 (fun a ha hx => q ((y_below hn x).mpr ⟨a, ha, hx⟩))) (fun q1 q2 => ?_)
  obtain ⟨a, ha, hx⟩ := (y_below hn x).mp ⟨q1, q2⟩
  exact k1 a ha hx
theorem y_isMember {Φ : Int32 → hv_S → Prop} (hR : RM D hb It σ) (hW : hWF D) (x : Int32) (k0 : (∀ a, a < D 0 0 → x ≠ nI a) → Φ 0 σ) (k1 : ∀ a, a < D 0 0 → x = nI a → Φ 1 σ) : hv_CI l (hv_e2 e) 1 m_X10_isMember [.ref 60, .int x] σ Φ := by
  have hn := hW.1
  exact B_X10_isMember _ (y_inN (n := D 0 0) (by omega) (by rw [hR.1.1]) (fun q => ⟨Or.inl rfl, k0 q⟩) (fun a ha hx => ⟨Or.inr rfl, k1 a ha hx⟩))
theorem y_isMatter {Φ : Int32 → hv_S → Prop} (x : Int32) (k0 : (∀ m, m < 3 → x ≠ nI m) → Φ 0 σ) (k1 : ∀ m, m < 3 → x = nI m → Φ 1 σ) : hv_CI l (hv_e2 e) 1 m_X10_isMatter [.ref 60, .int x] σ Φ :=
  B_X10_isMatter _ (y_inN (n := 3) (by decide) (by decide) (fun q => ⟨Or.inl rfl, k0 q⟩) (fun a ha hx => ⟨Or.inr rfl, k1 a ha hx⟩))
theorem ones_ok : ∀ S, S < 256 → S ≠ 0 → (S &&& (S - 1)) < S ∧ pop 8 S = pop 8 (S &&& (S - 1)) + 1 := by decide +kernel
theorem y_ones {Φ : Int32 → hv_S → Prop} {S : Nat} (hS : S < 256) (k : Φ (nI (pop 8 S)) σ) : hv_CI l (hv_e2 e) 0 m_X10_ones [.ref 60, .int (nI S)] σ Φ := by
  refine B_X10_ones _ ?_
  suffices ∀ d c S, S ≤ d → S < 256 → Φ (nI (c + pop 8 S)) σ → L_X10_ones_4 l e Φ (nI c) (nI S) σ by exact this S 0 S (Nat.le_refl S) hS (by rw [Nat.zero_add]; exact k)
  intro d
  induction d with
  | zero =>
    intro c S hd hS k
    have h0 : S = 0 := by omega
    subst h0
    exact B_X10_ones_4 _ _ ⟨fun _ => k, fun q => absurd rfl q⟩
  | succ d ih =>
    intro c S hd hS k
    refine B_X10_ones_4 _ _ ⟨fun q => ?_, fun q => ?_⟩
    · have h0 : S = 0 := (nI_eq (b := 0) (by omega) (by decide)).mp q
      subst h0; exact k
    · have h0 : S ≠ 0 := fun z => q (by rw [z]; rfl)
      obtain ⟨o1, o2⟩ := ones_ok S hS h0
      have e1 : nI S - 1 = nI (S - 1) := by rw [show (1 : Int32) = nI 1 from rfl, pk_sub (by omega)]
      rw [e1, tI_and, nI_1]
      refine ih (c + 1) (S &&& (S - 1)) (by omega) (by omega) ?_
      rw [show c + 1 + pop 8 (S &&& (S - 1)) = c + pop 8 S by omega]
      exact k
theorem y_has {Φ : Int32 → hv_S → Prop} {S i : Nat} (hS : S < 2 ^ 31) (hi : i < 32) (k : Φ (bI (S.testBit i)) σ) : hv_CI l (hv_e2 e) 0 m_X10_has [.ref 60, .int (nI S), .int (nI i)] σ Φ := by
  have h := bt_1 hS hi
  refine B_X10_has _ _ ⟨fun q => ?_, fun q => ?_⟩
  · have : S.testBit i = false := by
      cases c : S.testBit i with
      | false => rfl
      | true => exact absurd (h.mpr c) q
    rw [this] at k; exact k
  · rw [h.mp q] at k; exact k
theorem yeM_n (hW : hWF D) {m : Nat} (hm : m < 3) : msk (fun i => D 7 (8 * m + i) == 1) (D 0 0) = yeM D m := by
  have hn := hW.1
  refine tb_ext (n := 8) (Nat.lt_of_lt_of_le (msk_lt _ _) (Nat.pow_le_pow_right (by decide) hn)) (msk8 _) (fun i hi => ?_)
  unfold yeM
  rw [msk_bit, msk_bit]
  by_cases c : i < D 0 0
  · simp [c, hi]
  · have h0 := hW.2.2.2.2.2.2.2.2.2.2.1 (8 * m + i) (by omega) (by omega)
    have : D 7 (8 * m + i) = 0 := h0.2.2.2.2.2.2
    simp [c, this]
theorem cellM (a m : Nat) : 8 * nI m + nI a = nI (8 * m + a) := by simp only [lI, pk_mul, nI_add]
theorem y_thinks {Φ : Int32 → hv_S → Prop} {m : Nat} (hR : RM D hb It σ) (hW : hWF D) (hm : m < 3) (k : Φ (nI (yeM D m)) σ) : hv_CI l (hv_e2 e) 0 m_X10_thinks [.ref 60, .int (nI m)] σ Φ := by
  have hn := hW.1
  refine B_X10_thinks _ ?_
  rw [← yeM_n hW hm] at k
  suffices ∀ d i, i + d = D 0 0 → L_X10_thinks_4 l e Φ (nI m) (nI (msk (fun i => D 7 (8 * m + i) == 1) i)) (nI i) σ by exact this (D 0 0) 0 (by omega)
  intro d
  induction d with
  | zero =>
    intro i hi
    have hin : i = D 0 0 := by omega
    subst hin
    exact B_X10_thinks_4 _ _ _ ⟨fun _ => k, fun q => absurd (by rw [hR.1.1]; exact nI_le (Nat.le_refl _) (by omega)) q⟩
  | succ d ih =>
    intro i hi
    have h7 := (hW.2.2.2.2.2.2.2.2.2.1 (8 * m + i) (by omega)).2.2.2.2.1
    refine B_X10_thinks_4 _ _ _ ⟨fun q => absurd q (by rw [hR.1.1]; exact nI_ge (by omega) (by omega)), fun _ => ?_⟩
    rw [cellM, nI_clamp (by omega), hR.1.2.2.1 _ (by omega), nI_1, one_shl (by omega), tI_or, show (0 : Int32) = nI 0 from rfl, tI_or, Nat.or_zero, nI_eq (by omega) (by decide)]
    refine ⟨vp_in_nI (by omega) (by decide), fun q => ?_, fun q => ?_⟩
    · rw [← msk_step (p := fun i => D 7 (8 * m + i) == 1) (i := i) (by simp [q])]
      exact ih (i + 1) (by omega)
    · rw [msk_stepT (p := fun i => D 7 (8 * m + i) == 1) (i := i) (by simp; omega)]
      exact ih (i + 1) (by omega)
/-- voices that lie ready -/
def vmI (σ : hv_S) (n : Nat) (W : Int) (v : Nat → Int) : Prop := σ.2.1 60 40 = lZ W ∧ (∀ a, a < n → σ.2.1 75 a = lZ (v a)) ∧ 0 < W ∧ W ≤ 1000000000 ∧ ∀ a, 0 ≤ v a ∧ v a ≤ 8 * W
theorem y_speaking {Φ : Int32 → hv_S → Prop} {W : Int} {v : Nat → Int} (hR : RM D hb It σ) (hW : hWF D) (hv : vmI σ (D 0 0) W v) (k : Φ (nI (vts D v)) σ) : hv_CI l (hv_e2 e) 0 m_X10_speaking [.ref 60] σ Φ := by
  have hn := hW.1
  obtain ⟨h1, h2, h3, h4, h5⟩ := hv
  refine B_X10_speaking ?_
  unfold vts at k
  suffices ∀ d i, i + d = D 0 0 → L_X10_speaking_4 l e Φ (nI (msk (fun a => decide (0 < v a)) i)) (nI i) σ by exact this (D 0 0) 0 (by omega)
  intro d
  induction d with
  | zero =>
    intro i hi
    have hin : i = D 0 0 := by omega
    subst hin
    exact B_X10_speaking_4 _ _ ⟨fun _ => k, fun q => absurd (by rw [hR.1.1]; exact nI_le (Nat.le_refl _) (by omega)) q⟩
  | succ d ih =>
    intro i hi
    have := h5 i
    refine B_X10_speaking_4 _ _ ⟨fun q => absurd q (by rw [hR.1.1]; exact nI_ge (by omega) (by omega)), fun _ => ?_⟩
    rw [nI_clamp (by omega), h2 i (by omega), ← lZ_0, lZ_le (by omega) (by omega) (by omega) (by omega), nI_1, one_shl (by omega), tI_or, show (0 : Int32) = nI 0 from rfl, tI_or, Nat.or_zero]
    refine ⟨vp_in_nI (by omega) (by decide), fun q => ?_, fun q => ?_⟩
    · rw [← msk_step (p := fun a => decide (0 < v a)) (i := i) (by simp; omega)]
      exact ih (i + 1) (by omega)
    · rw [msk_stepT (p := fun a => decide (0 < v a)) (i := i) (by simp; omega)]
      exact ih (i + 1) (by omega)
theorem vm_sum {n : Nat} {W : Int} {v : Nat → Int} (hn : n ≤ 8) (hW : W ≤ 1000000000) (hv : ∀ a, 0 ≤ v a ∧ v a ≤ 8 * W) (i : Nat) (hi : i ≤ n) : 0 ≤ sumI v i ∧ sumI v i ≤ 64000000000 := by
  have := sumI_v (n := i) (v := v) (B := 8000000000) (fun a _ => by have := hv a; omega)
  have h1 : (i : Int) * 8000000000 ≤ 8 * 8000000000 := Int.mul_le_mul_of_nonneg_right (by omega) (by omega)
  omega
theorem y_decides {Φ : Int32 → hv_S → Prop} {W : Int} {v : Nat → Int} {S : Nat} (hR : RM D hb It σ) (hW : hWF D) (hv : vmI σ (D 0 0) W v) (hS : S < 2 ^ 31) (k : Φ (bI (dcd D v S)) σ) : hv_CI l (hv_e2 e) 1 m_X10_decides [.ref 60, .int (nI S)] σ Φ := by
  have hn := hW.1
  obtain ⟨h1, h2, h3, h4, h5⟩ := hv
  have c1 : D 0 4 ≤ 999 := hW.2.2.2.2.1
  have c2 : D 0 5 ≤ 999 := hW.2.2.2.2.2.2.1
  have hys : ∀ a, 0 ≤ (if S.testBit a = true then v a else 0) ∧ (if S.testBit a = true then v a else 0) ≤ 8 * W := fun a => by
    have := h5 a
    split <;> omega
  refine B_X10_decides _ ?_
  suffices ∀ d i, i + d = D 0 0 → L_X10_decides_8 l e Φ (nI S) (lZ (sumI (fun a => if S.testBit a = true then v a else 0) i)) (lZ (sumI v i)) (nI i) σ by exact this (D 0 0) 0 (by omega)
  intro d
  induction d with
  | zero =>
    intro i hi
    have hin : i = D 0 0 := by omega
    subst hin
    have s1 := vm_sum hn h4 h5 (D 0 0) (Nat.le_refl _)
    have s2 := vm_sum hn h4 hys (D 0 0) (Nat.le_refl _)
    have hd : dcd D v S = true ↔ (D 0 4 : Int) * sumI v (D 0 0) < (D 0 5 : Int) * sumI (fun a => if S.testBit a = true then v a else 0) (D 0 0) := by unfold dcd; exact decide_eq_true_iff
    refine B_X10_decides_8 _ _ _ _ ⟨fun _ => ?_, fun q => absurd (by rw [hR.1.1]; exact nI_le (Nat.le_refl _) (by omega)) q⟩
    generalize sumI v (D 0 0) = X at *
    generalize sumI (fun a => if S.testBit a = true then v a else 0) (D 0 0) = Y at *
    have b1 := Int.mul_nonneg (show (0 : Int) ≤ (D 0 4 : Int) by omega) s1.1
    have b2 := Int.mul_nonneg (show (0 : Int) ≤ (D 0 5 : Int) by omega) s2.1
    have b3 : (D 0 4 : Int) * X ≤ 999 * X := Int.mul_le_mul_of_nonneg_right (by omega) s1.1
    have b4 : (D 0 5 : Int) * Y ≤ 999 * Y := Int.mul_le_mul_of_nonneg_right (by omega) s2.1
    rw [hR.2.2.1.2.2.2.1, hR.2.2.1.2.2.1, nI_lZ (by omega), nI_lZ (by omega), lZ_mul, lZ_mul, lZ_le (by omega) (by omega) (by omega) (by omega)]
    refine ⟨fun q => ?_, fun q => ?_⟩
    · have : dcd D v S = false := by
        cases z : dcd D v S with
        | false => rfl
        | true => have := hd.mp z; omega
      rw [this] at k; exact k
    · rw [hd.mpr (by omega)] at k; exact k
  | succ d ih =>
    intro i hi
    refine B_X10_decides_8 _ _ _ _ ⟨fun q => absurd q (by rw [hR.1.1]; exact nI_ge (by omega) (by omega)), fun _ => ⟨vp_in_nI (by omega) (by decide), y_has hS (by omega) ?_⟩⟩
    have hth := ih (i + 1) (by omega)
    have e1 : sumI (fun a => if S.testBit a = true then v a else 0) (i + 1) = sumI (fun a => if S.testBit a = true then v a else 0) i + (if S.testBit i = true then v i else 0) := rfl
    have e2 : sumI v (i + 1) = sumI v i + v i := rfl
    rw [e1, e2, ← lZ_add, ← lZ_add] at hth
    rw [nI_clamp (by omega), h2 i (by omega), nI_1]
    cases c : S.testBit i with
    | false =>
      rw [c, if_neg (by decide)] at hth
      exact ⟨fun _ => hth, fun q => absurd rfl q⟩
    | true =>
      rw [c, if_pos rfl] at hth
      exact ⟨fun q => absurd q (by decide), fun _ => ⟨vp_in_nI (by omega) (by decide), hth⟩⟩
theorem y_heapOf {Φ : Int64 → hv_S → Prop} {W : Int} {v : Nat → Int} (hR : RM D hb It σ) (hW : hWF D) (hv : vmI σ (D 0 0) W v) (k : Φ (lZ (mxI v (D 0 0))) σ) : hv_CL l (hv_e2 e) 0 m_X10_heapOf [.ref 60] σ Φ := by
  have hn := hW.1
  obtain ⟨h1, h2, h3, h4, h5⟩ := hv
  refine B_X10_heapOf ?_
  suffices ∀ d i, i + d = D 0 0 → L_X10_heapOf_4 l e Φ (lZ (mxI v i)) (nI i) σ by exact this (D 0 0) 0 (by omega)
  intro d
  induction d with
  | zero =>
    intro i hi
    have hin : i = D 0 0 := by omega
    subst hin
    exact B_X10_heapOf_4 _ _ ⟨fun _ => k, fun q => absurd (by rw [hR.1.1]; exact nI_le (Nat.le_refl _) (by omega)) q⟩
  | succ d ih =>
    intro i hi
    have := h5 i
    have hmb := mxI_b (v := v) (B := 8 * W) (by omega) (fun a => (h5 a).2) i
    have hth := ih (i + 1) (by omega)
    have em : mxI v (i + 1) = max (mxI v i) (v i) := rfl
    rw [em] at hth
    refine B_X10_heapOf_4 _ _ ⟨fun q => absurd q (by rw [hR.1.1]; exact nI_ge (by omega) (by omega)), fun _ => ?_⟩
    rw [nI_clamp (by omega), h2 i (by omega), lZ_le (by omega) (by omega) (by omega) (by omega), nI_1]
    refine ⟨vp_in_nI (by omega) (by decide), fun q => ?_, fun q => ⟨vp_in_nI (by omega) (by decide), ?_⟩⟩
    · rw [Int.max_eq_left q] at hth; exact hth
    · rw [Int.max_eq_right (by omega)] at hth; exact hth
theorem y_divisor {Φ : Int64 → hv_S → Prop} {a b : Nat} (ha : a < 2 ^ 62) (hb2 : b < 2 ^ 62) (k : Φ (lZ (Nat.gcd a b : Nat)) σ) : hv_CL l (hv_e2 e) 0 m_X10_divisor [.ref 60, .long (lZ (a : Int)), .long (lZ (b : Int))] σ Φ := by
  refine B_X10_divisor _ _ ?_
  suffices ∀ d a b, b ≤ d → a < 2 ^ 62 → b < 2 ^ 62 → Φ (lZ (Nat.gcd a b : Nat)) σ → L_X10_divisor_6 l e Φ (lZ (a : Int)) (lZ (b : Int)) σ by exact this b a b (Nat.le_refl b) ha hb2 k
  intro d
  induction d with
  | zero =>
    intro a b hd ha hb2 k
    have h0 : b = 0 := Nat.le_zero.mp hd
    subst h0
    rw [Nat.gcd_zero_right] at k
    exact B_X10_divisor_6 _ _ ⟨fun _ => k, fun q => absurd rfl q⟩
  | succ d ih =>
    intro a b hd ha hb2 k
    refine B_X10_divisor_6 _ _ ⟨fun q => ?_, fun q => ⟨q, ?_⟩⟩
    · have h0 := (lN_0 hb2).mp q
      subst h0
      rw [Nat.gcd_zero_right] at k
      exact k
    · have hb0 : 0 < b := Nat.pos_of_ne_zero (fun c => q ((lN_0 hb2).mpr c))
      have hr := Nat.mod_lt a hb0
      rw [lN_mod ha hb0 hb2]
      rw [gcd_step] at k
      exact ih b (a % b) (by omega) hb2 (by omega) k
theorem y_part {Φ : Int64 → hv_S → Prop} {y w : Int} {p : Nat} (hy : 0 ≤ y ∧ y ≤ 8000000000) (hw : 0 < w ∧ w ≤ 1000000000) (hp : p ≤ 1) (k : Φ (lZ (lwZ y w p)) σ) : hv_CL l (hv_e2 e) 1 m_X10_part [.ref 60, .long (lZ y), .long (lZ w), .int (nI p)] σ Φ := by
  obtain ⟨y', hy'⟩ : ∃ y' : Nat, y = y' := ⟨y.toNat, by omega⟩
  obtain ⟨w', hw'⟩ : ∃ w' : Nat, w = w' := ⟨w.toNat, by omega⟩
  subst hy'
  subst hw'
  have hg0 : 0 < Nat.gcd y' w' := Nat.gcd_pos_of_pos_right y' (by omega)
  have hg1 : Nat.gcd y' w' ≤ w' := Nat.gcd_le_right y' (by omega)
  have hgn : ¬ lZ ((Nat.gcd y' w' : Nat) : Int) = 0 := fun q => absurd ((lN_0 (by omega)).mp q) (by omega)
  unfold lwZ lwN at k
  rw [Int.toNat_natCast, Int.toNat_natCast] at k
  refine B_X10_part _ _ _ (y_divisor (by omega) (by omega) ⟨fun q => ⟨hgn, ?_⟩, fun q => ⟨hgn, ?_⟩⟩)
  · rw [lN_div (by omega) hg0 (by omega)]
    rw [if_neg (fun c => q (by rw [c]; rfl))] at k
    exact k
  · rw [lN_div (by omega) hg0 (by omega)]
    rw [if_pos ((nI_eq (b := 0) (by omega) (by decide)).mp q)] at k
    exact k
theorem y_isLess {Φ : Int32 → hv_S → Prop} {a b c d : Int} (ha : 0 ≤ a ∧ a ≤ 8000000000) (hb2 : 0 < b ∧ b ≤ 1000000000) (hc : 0 ≤ c ∧ c ≤ 8000000000) (hd : 0 < d ∧ d ≤ 1000000000) (k : Φ (bI (decide (a * d < c * b))) σ) : hv_CI l (hv_e2 e) 1 m_X10_isLess [.ref 60, .long (lZ a), .long (lZ b), .long (lZ c), .long (lZ d)] σ Φ := by
  obtain ⟨a', ea⟩ : ∃ a' : Nat, a = a' := ⟨a.toNat, by omega⟩
  obtain ⟨b', eb⟩ : ∃ b' : Nat, b = b' := ⟨b.toNat, by omega⟩
  obtain ⟨c', ec⟩ : ∃ c' : Nat, c = c' := ⟨c.toNat, by omega⟩
  obtain ⟨d', ed⟩ : ∃ d' : Nat, d = d' := ⟨d.toNat, by omega⟩
  subst ea; subst eb; subst ec; subst ed
  have g0 : 0 < Nat.gcd a' b' := Nat.gcd_pos_of_pos_right a' (by omega)
  have g1 : Nat.gcd a' b' ≤ b' := Nat.gcd_le_right a' (by omega)
  have f0 : 0 < Nat.gcd c' d' := Nat.gcd_pos_of_pos_right c' (by omega)
  have f1 : Nat.gcd c' d' ≤ d' := Nat.gcd_le_right c' (by omega)
  have gn : ¬ lZ ((Nat.gcd a' b' : Nat) : Int) = 0 := fun q => absurd ((lN_0 (by omega)).mp q) (by omega)
  have fn : ¬ lZ ((Nat.gcd c' d' : Nat) : Int) = 0 := fun q => absurd ((lN_0 (by omega)).mp q) (by omega)
  obtain ⟨a1, e1⟩ := Nat.gcd_dvd_left a' b'
  obtain ⟨b1, e2⟩ := Nat.gcd_dvd_right a' b'
  obtain ⟨c1, e3⟩ := Nat.gcd_dvd_left c' d'
  obtain ⟨d1, e4⟩ := Nat.gcd_dvd_right c' d'
  refine B_X10_isLess _ _ _ _ (y_divisor (by omega) (by omega) (y_divisor (by omega) (by omega) ⟨gn, fn, fn, gn, ?_⟩))
  rw [lN_div (by omega) g0 (by omega), lN_div (by omega) g0 (by omega), lN_div (by omega) f0 (by omega), lN_div (by omega) f0 (by omega)]
  generalize Nat.gcd a' b' = g at *
  generalize Nat.gcd c' d' = f at *
  have q1 : a' / g = a1 := by rw [e1]; exact Nat.mul_div_cancel_left a1 g0
  have q2 : b' / g = b1 := by rw [e2]; exact Nat.mul_div_cancel_left b1 g0
  have q3 : c' / f = c1 := by rw [e3]; exact Nat.mul_div_cancel_left c1 f0
  have q4 : d' / f = d1 := by rw [e4]; exact Nat.mul_div_cancel_left d1 f0
  rw [q1, q2, q3, q4, lZ_mul, lZ_mul]
  have la : a1 ≤ a' := by rw [e1]; exact Nat.le_mul_of_pos_left a1 g0
  have lb : b1 ≤ b' := by rw [e2]; exact Nat.le_mul_of_pos_left b1 g0
  have lc : c1 ≤ c' := by rw [e3]; exact Nat.le_mul_of_pos_left c1 f0
  have ld : d1 ≤ d' := by rw [e4]; exact Nat.le_mul_of_pos_left d1 f0
  have m1 : a1 * d1 ≤ 8000000000 * 1000000000 := Nat.mul_le_mul (by omega) (by omega)
  have m2 : c1 * b1 ≤ 8000000000 * 1000000000 := Nat.mul_le_mul (by omega) (by omega)
  have w1 : ((c1 : Int) * (b1 : Int)) = ((c1 * b1 : Nat) : Int) := (Int.natCast_mul _ _).symm
  have w2 : ((a1 : Int) * (d1 : Int)) = ((a1 * d1 : Nat) : Int) := (Int.natCast_mul _ _).symm
  rw [w1, w2, lZ_le (by omega) (by omega) (by omega) (by omega)]
  have key : ((a' : Int) * (d' : Int) < (c' : Int) * (b' : Int)) ↔ a1 * d1 < c1 * b1 := by
    rw [← Int.natCast_mul, ← Int.natCast_mul, Int.ofNat_lt, e1, e2, e3, e4]
    have x1 : g * a1 * (f * d1) = g * f * (a1 * d1) := by grind
    have x2 : f * c1 * (g * b1) = g * f * (c1 * b1) := by grind
    rw [x1, x2]
    exact Nat.mul_lt_mul_left (Nat.mul_pos g0 f0)
  refine ⟨fun q => ?_, fun q => ?_⟩
  · have : decide ((a' : Int) * (d' : Int) < (c' : Int) * (b' : Int)) = false := decide_eq_false (fun z => by have := key.mp z; omega)
    rw [this] at k; exact k
  · have : decide ((a' : Int) * (d' : Int) < (c' : Int) * (b' : Int)) = true := decide_eq_true (key.mpr (by omega))
    rw [this] at k; exact k
end RA
