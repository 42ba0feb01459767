-- THE SPREAD, bottom up
theorem pop_le (S : Nat) : ∀ k, pop k S ≤ k := by
  intro k
  induction k with
  | zero => exact Nat.le_refl _
  | succ k ih => unfold pop; split <;> omega
theorem pop_mono {S S' : Nat} : ∀ k, (∀ i, i < k → S.testBit i = true → S'.testBit i = true) → pop k S ≤ pop k S' := by
  intro k
  induction k with
  | zero => intro _; exact Nat.le_refl _
  | succ k ih =>
    intro h
    have h1 := ih (fun i hi => h i (Nat.lt_succ_of_lt hi))
    have h2 := h k (Nat.lt_succ_self k)
    unfold pop
    cases e1 : S.testBit k <;> cases e2 : S'.testBit k <;> simp [e1, e2] at h2 ⊢ <;> omega
theorem pop_lt {S S' : Nat} : ∀ k, (∀ i, i < k → S.testBit i = true → S'.testBit i = true) → (∃ i, i < k ∧ S'.testBit i = true ∧ S.testBit i = false) → pop k S < pop k S' := by
  intro k
  induction k with
  | zero => intro _ ⟨i, hi, _⟩; omega
  | succ k ih =>
    intro h ⟨i, hi, h1, h2⟩
    have hm := pop_mono k (fun i hi => h i (Nat.lt_succ_of_lt hi))
    have hk := h k (Nat.lt_succ_self k)
    by_cases e : i = k
    · subst e
      unfold pop
      rw [h1, h2]
      simp only [if_true, Bool.false_eq_true, if_false]
      omega
    · have := ih (fun i hi => h i (Nat.lt_succ_of_lt hi)) ⟨i, by omega, h1, h2⟩
      unfold pop
      cases e1 : S.testBit k <;> cases e2 : S'.testBit k <;> simp [e1, e2] at hk ⊢ <;> omega
theorem pop_pos {S : Nat} {k : Nat} (h : ∃ i, i < k ∧ S.testBit i = true) : 0 < pop k S := by
  have := pop_lt (S := 0) (S' := S) k (fun i _ h => by simp at h) (by obtain ⟨i, h1, h2⟩ := h; exact ⟨i, h1, h2, by simp⟩)
  omega
theorem ne_bit {S T n : Nat} (hS : S < 2 ^ n) (hT : T < 2 ^ n) (h : S ≠ T) : ∃ i, i < n ∧ S.testBit i ≠ T.testBit i := by
  apply Classical.byContradiction
  intro q
  apply h
  refine tb_ext hS hT (fun i hi => ?_)
  apply Classical.byContradiction
  intro q2
  exact q ⟨i, hi, q2⟩
-- reaching
section RE
variable {l : Launch} {e : hv_Ev} {σ : hv_S} {n : Nat} {G : Nat → Nat → Nat} {SP : Nat} {OW : Nat → Nat}
def rsp (n : Nat) (G : Nat → Nat → Nat) (SP : Nat) (OW : Nat → Nat) (σ : hv_S) : Prop := n ≤ 8 ∧ σ.1 1 7 = nI n ∧ SP < 2 ^ n ∧ (∀ a, a < n → (SP.testBit a = true ↔ 0 < G a a)) ∧ (∀ a, a < n → σ.1 20 a = nI (OW a) ∧ OW a < 256) ∧ ∀ a b, a < n → b < n → a ≠ b → ((OW a).testBit b = true ↔ 0 < G a b)
theorem x_reach_in {Φ : Int32 → hv_S → Prop} (h : rsp n G SP OW σ) {r B : Nat} (hB : B < 2 ^ n) (hR : ∀ a, a < n → B.testBit a = true → Rch n G a)
    (k : ∀ S, S < 2 ^ n → (∀ a, a < n → S.testBit a = true → Rch n G a) → (∀ a, a < n → B.testBit a = true → S.testBit a = true) → (∀ a, a < n → OW a &&& B ≠ 0 → S.testBit a = true) → (B = 0 → S = 0) → (S ≠ B → L_X5_reaching_7 l e Φ (nI S) (nI r + 1) σ) ∧ (S = B → Φ (nI S) σ)) :
    ∀ d i S, i + d = n → S < 2 ^ n → (∀ a, a < n → S.testBit a = true → Rch n G a) → (∀ a, a < n → B.testBit a = true → S.testBit a = true) → (∀ a, a < i → OW a &&& B ≠ 0 → S.testBit a = true) → (B = 0 → S = 0) → L_X5_reaching_18 l e Φ (nI S) (nI r) (nI B) (nI i) σ := by
  obtain ⟨hn, h1, h2, h3, h4, h5⟩ := h
  have p2 : ∀ x, x < 2 ^ n → x < 2 ^ 31 := fun x hx => Nat.lt_of_lt_of_le hx (Nat.pow_le_pow_right (by decide) (by omega))
  intro d
  induction d with
  | zero =>
    intro i S hi hS hSR hBS hc h0
    have hin : i = n := by omega
    subst hin
    refine B_X5_reaching_18 _ _ _ _ ⟨fun _ => ?_, fun q => absurd (by rw [h1]; exact nI_le (Nat.le_refl _) (by omega)) q⟩
    obtain ⟨k1, k2⟩ := k S hS hSR hBS hc h0
    refine ⟨fun q => k1 (fun q2 => q (by rw [q2])), fun q => k2 ((nI_eq (p2 S hS) (p2 B hB)).mp q)⟩
  | succ d ih =>
    intro i S hi hS hSR hBS hc h0
    refine B_X5_reaching_18 _ _ _ _ ⟨fun q => absurd q (by rw [h1]; exact nI_ge (by omega) (by omega)), fun _ => ?_⟩
    rw [nI_clamp (by omega)]
    obtain ⟨g1, g2⟩ := h4 i (by omega)
    rw [g1]
    have e1 : nI i + 1 = nI (i + 1) := nI_1 i
    refine ⟨vp_in_nI (by omega) (by decide), fun q => ?_, fun q => ?_⟩
    · have q1 : OW i &&& S = 0 := (nI_and0 (by omega)).mp q
      rw [e1]
      refine ih (i + 1) S (by omega) hS hSR hBS (fun a ha hq => ?_) h0
      by_cases ea : a = i
      · subst ea
        exfalso
        apply hq
        rw [and0_iff] at q1 ⊢
        intro j ⟨z1, z2⟩
        by_cases hj : j < n
        · exact q1 j ⟨z1, hBS j hj z2⟩
        · rw [tb_hi hB (by omega)] at z2; cases z2
      · exact hc a (by omega) hq
    · have q1 : OW i &&& S ≠ 0 := fun z => q ((nI_and0 (by omega)).mpr z)
      rw [e1, one_shl (by omega), tI_or]
      refine ih (i + 1) (S ||| 2 ^ i) (by omega) (lt_or2 hS (by omega)) (fun a ha hq => ?_) (fun a ha hq => ?_) (fun a ha hq => ?_) (fun z => ?_)
      · rw [tb_or2] at hq
        cases hs : S.testBit a with
        | true => exact hSR a ha hs
        | false =>
          rw [hs] at hq
          have ea : i = a := by simpa using hq
          subst ea
          have : ∃ j, (OW i).testBit j = true ∧ S.testBit j = true := by
            apply Classical.byContradiction
            intro z
            exact q1 (and0_iff.mpr (fun j w => z ⟨j, w⟩))
          obtain ⟨j, j1, j2⟩ := this
          have hj : j < n := by
            rcases Nat.lt_or_ge j n with w | w
            · exact w
            · rw [tb_hi hS w] at j2; cases j2
          by_cases hij : i = j
          · subst hij; exact hSR i hj j2
          · exact Rch_step hj ((h5 i j ha hj hij).mp j1) (hSR j hj j2)
      · rw [tb_or2, hBS a ha hq]; rfl
      · rw [tb_or2]
        by_cases ea : a = i
        · subst ea; simp
        · rw [hc a (by omega) hq]; rfl
      · exfalso
        apply q1
        rw [h0 z, Nat.and_zero]
theorem x_reaching {Φ : Int32 → hv_S → Prop} (h : rsp n G SP OW σ) (hsp : σ.1 18 4 = nI SP) (k : ∀ R, R < 2 ^ n → (∀ a, a < n → (R.testBit a = true ↔ Rch n G a)) → Φ (nI R) σ) : hv_CI l (hv_e1 e) 0 m_X5_reaching [.ref 18] σ Φ := by
  have h' := h
  obtain ⟨hn, h1, h2, h3, h4, h5⟩ := h'
  refine B_X5_reaching ?_
  rw [hsp]
  suffices ∀ d r S, r + d = 8 → S < 2 ^ n → (∀ a, a < n → S.testBit a = true → Rch n G a) → (∀ a, a < n → SP.testBit a = true → S.testBit a = true) → (S = 0 → r = 0) → (S ≠ 0 → r + 1 ≤ pop n S) → L_X5_reaching_7 l e Φ (nI S) (nI r) σ by
    exact this 8 0 SP (by omega) h2 (fun a ha q => ⟨0, (h3 a ha).mp q⟩) (fun a _ q => q) (fun _ => rfl) (fun q => pop_pos (by
      obtain ⟨i, h6, h7⟩ := ne_bit h2 (Nat.two_pow_pos n) q
      exact ⟨i, h6, by rw [Nat.zero_testBit] at h7; simpa using h7⟩))
  intro d
  induction d with
  | zero =>
    intro r S hr hS hSR hSP h8 h9
    have := pop_le S n
    by_cases z : S = 0
    · have := h8 z; omega
    · have := h9 z; omega
  | succ d ih =>
    intro r S hr hS hSR hSP h8 h9
    refine B_X5_reaching_7 _ _ ⟨fun q => absurd q (by exact nI_ge (a := r) (b := 8) (by omega) (by omega)), fun _ => ?_⟩
    refine x_reach_in h (r := r) hS hSR (fun S' g1 g2 g3 g4 g5 => ⟨fun hne => ?_, fun heq => ?_⟩) n 0 S (by omega) hS hSR (fun _ _ q => q) (fun a ha => by omega) (fun z => z)
    · rw [nI_1]
      obtain ⟨i, hi, hb⟩ := ne_bit g1 hS hne
      have hb2 : S'.testBit i = true ∧ S.testBit i = false := by
        cases e1 : S.testBit i with
        | true => rw [g3 i hi e1, e1] at hb; exact absurd rfl hb
        | false => rw [e1] at hb; exact ⟨by simpa using hb, rfl⟩
      have hz : S ≠ 0 := fun z => hne (by rw [g5 z, z])
      have := pop_lt (S := S) (S' := S') n g3 ⟨i, hi, hb2⟩
      have := h9 hz
      refine ih (r + 1) S' (by omega) g1 g2 (fun a ha q => g3 a ha (hSP a ha q)) (fun z => ?_) (fun _ => by omega)
      rw [z] at hb2; simp at hb2
    · subst heq
      refine k S' hS (fun a ha => ⟨fun q => hSR a ha q, fun q => ?_⟩)
      refine Rch_in (fun a => a < n ∧ S'.testBit a = true) (fun a ha q => ⟨ha, hSP a ha ((h3 a ha).mpr q)⟩) (fun a b ha hb hg ⟨_, hq⟩ => ⟨ha, ?_⟩) a ha q |>.2
      by_cases hab : a = b
      · subst hab; exact hq
      · refine g4 a ha (fun z => ?_)
        exact and0_iff.mp z b ⟨(h5 a b ha hb hab).mpr hg, hq⟩
end RE
