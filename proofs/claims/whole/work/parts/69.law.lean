-- THE LAW: what is barred
theorem tI_m2 : (-2 : Int32) = nI 4294967294 := by decide
section LW2
variable {l : Launch} {e : hv_Ev} {σ : hv_S} {D : hD} {hb : hB}
theorem runs_s (f : Nat → Nat) (code : Nat → Int32) (k : Nat) : runs f code (k + 1) = stp f (code k) (runs f code k) := rfl
/-- is a test true -/
def tru (f : Nat → Nat) (v : Nat) : Bool := decide (v / 3000 < 5 ∧ (v / 1000 % 3 = 0 ∧ f (v / 3000) < v % 1000 ∨ v / 1000 % 3 = 1 ∧ f (v / 3000) = v % 1000 ∨ v / 1000 % 3 = 2 ∧ v % 1000 < f (v / 3000)))
theorem x_isTrue {Φ : Int32 → hv_S → Prop} {f : Nat → Nat} {v : Nat} (hv : v < 15000) (hf : ∀ k, k < 5 → σ.1 17 k = nI (f k) ∧ f k < 1000) (k0 : tru f v = false → Φ 0 σ) (k1 : tru f v = true → Φ 1 σ) :
    hv_CI l (hv_e1 e) 0 m_X4_isTrue [.int (nI v), .ref 17] σ Φ := by
  have e1 : nI v / 1000 = nI (v / 1000) := pk_div (d := 1000) (by omega) (by decide) (by decide)
  have e2 : nI (v / 1000) / 3 = nI (v / 3000) := by
    rw [show (3 : Int32) = nI 3 from rfl, pk_div (by omega) (by decide) (by decide), Nat.div_div_eq_div_mul]
  have e3 : nI (v / 1000) - nI (v / 3000) * 3 = nI (v / 1000 % 3) := by
    rw [← e2]
    exact pk_rem (d := 3) (by omega) (by decide) (by decide)
  have e4 : nI v - nI (v / 1000) * 1000 = nI (v % 1000) := by
    rw [← e1]
    exact pk_rem (d := 1000) (by omega) (by decide) (by decide)
  refine B_X4_isTrue _ ?_
  rw [e1, e2, e3, e4]
  have hq : v / 3000 < 5 := by omega
  obtain ⟨f1, f2⟩ := hf (v / 3000) hq
  rw [nI_clamp (by omega), f1]
  have hs : v / 1000 % 3 < 3 := Nat.mod_lt _ (by decide)
  have hmm : v % 1000 < 1000 := Nat.mod_lt _ (by decide)
  have hin : vp_in (nI (v / 3000)) 5 := vp_in_nI hq (by decide)
  have hd : tru f v = true ↔ (v / 1000 % 3 = 0 ∧ f (v / 3000) < v % 1000 ∨ v / 1000 % 3 = 1 ∧ f (v / 3000) = v % 1000 ∨ v / 1000 % 3 = 2 ∧ v % 1000 < f (v / 3000)) := by
    unfold tru
    rw [decide_eq_true_iff]
    exact ⟨fun q => q.2, fun q => ⟨hq, q⟩⟩
  generalize v / 1000 % 3 = s at *
  generalize v % 1000 = n at *
  generalize f (v / 3000) = w at *
  have hk0 : ¬ (s = 0 ∧ w < n ∨ s = 1 ∧ w = n ∨ s = 2 ∧ n < w) → Φ 0 σ := fun q => k0 (by
    cases c : tru f v with
    | false => rfl
    | true => exact absurd (hd.mp c) q)
  have hk1 : (s = 0 ∧ w < n ∨ s = 1 ∧ w = n ∨ s = 2 ∧ n < w) → Φ 1 σ := fun q => k1 (hd.mpr q)
  have z0 : nI s = 0 ↔ s = 0 := nI_eq (b := 0) (by omega) (by decide)
  have z1 : nI s = 1 ↔ s = 1 := nI_eq (b := 1) (by omega) (by decide)
  rw [z0, z1, nI_leI (by omega) (by omega), nI_leI (by omega) (by omega), ne_eq, nI_eq (by omega) (by omega)]
  refine ⟨fun _ => ⟨fun q => ⟨hin, fun q2 => hk0 (by omega), fun q2 => hk1 (by omega)⟩, fun q => ⟨hin, fun q2 => hk0 (by omega), fun q2 => hk1 (by omega)⟩, fun q q2 => ⟨hin, fun q3 => hk0 (by omega), fun q3 => hk1 (by omega)⟩⟩, fun q => absurd (nI_lt (b := 5) hq (by decide)) q⟩
theorem stp_test {f : Nat → Nat} {v o : Nat} (hv : v < 15000) : stp f (nI v) o = o * 2 ||| (if tru f v = true then 1 else 0) := by
  unfold stp
  rw [if_neg (nI_pos (by omega)), nI_clamp (by omega)]
  unfold tru
  simp only [decide_eq_true_eq]
theorem x_forbid {Φ : Int32 → hv_S → Prop} {r a b m s q : Nat} (hr : hv_isR r) (hu : rul D hb r σ) (ha : a < 8) (hb8 : b < 8) (hm : m < 3) (hs : s ≤ 10) (hq : q ≤ 10) (hf : ∀ k, k < 5 → σ.1 17 k = nI (fct a b m s q k))
    (k0 : hb a b m s q = false → Φ 0 σ) (k1 : hb a b m s q = true → Φ 1 σ) : hv_CI l (hv_e1 e) 1 m_X4_forbid [.ref r, .ref 17] σ Φ := by
  obtain ⟨-, -, -, -, L, hL, h1, hneg, hpos, hrun⟩ := hu
  obtain ⟨hlt, hval⟩ := hrun a b m s q ha hb8 hm hs hq
  have hf2 : ∀ k, k < 5 → σ.1 17 k = nI (fct a b m s q k) ∧ fct a b m s q k < 1000 := fun k hk => ⟨hf k hk, by unfold fct; split <;> (try split) <;> (try split) <;> (try split) <;> omega⟩
  generalize fct a b m s q = f at *
  refine B_X4_forbid r hr ?_
  suffices ∀ d k, k + d = L → L_X4_forbid_4 l e r Φ (nI (runs f (fun j => σ.1 (r + 1) j) k)) (nI k) σ by exact this L 0 (by omega)
  intro d
  induction d with
  | zero =>
    intro k hk
    have hkL : k = L := by omega
    subst hkL
    have hlk := hlt k (Nat.le_refl _)
    refine B_X4_forbid_4 r hr _ _ ⟨fun _ => ⟨fun z => k0 ?_, fun z => k1 (hval.mpr (fun z2 => z (by rw [z2]; rfl)))⟩, fun z => absurd (by rw [h1]; exact nI_le (Nat.le_refl _) (by omega)) z⟩
    have z2 := (nI_eq (b := 0) (by omega) (by decide)).mp z
    cases c : hb a b m s q with
    | false => rfl
    | true => exact absurd z2 (hval.mp c)
  | succ d ih =>
    intro k hk
    have hth := ih (k + 1) (by omega)
    have hlk := hlt k (by omega)
    rw [runs_s] at hth
    refine B_X4_forbid_4 r hr _ _ ⟨fun z => absurd z (by rw [h1]; exact nI_ge (by omega) (by omega)), fun _ => ⟨vp_in_nI (by omega) (by decide), ?_⟩⟩
    rw [nI_clamp (by omega), nI_1]
    have hng := hneg k (by omega)
    have hps := hpos k (by omega)
    generalize σ.1 (r + 1) k = x at *
    generalize runs f (fun j => σ.1 (r + 1) j) k = o at *
    have em : nI o &&& 1 = nI (o % 2) := by rw [show (1 : Int32) = nI 1 from rfl, tI_and, Nat.and_one_is_mod]
    refine ⟨fun z => ⟨fun z1 zz hz => ⟨fun z3 => ?_, fun z3 => ?_⟩, fun z1 => ?_⟩, fun z => ?_⟩
    · have e0 : zz = nI (o / 2) := by rw [hz]; exact tI_ushr (a := o) (k := 1) (by omega) (by decide)
      rw [e0, em, tI_m2, tI_or, tI_and]
      unfold stp at hth
      rw [if_pos z, if_neg z1, if_neg z3] at hth
      exact hth
    · have e0 : zz = nI (o / 2) := by rw [hz]; exact tI_ushr (a := o) (k := 1) (by omega) (by decide)
      rw [e0, em, tI_or]
      unfold stp at hth
      rw [if_pos z, if_neg z1, if_pos z3] at hth
      exact hth
    · rw [show (1 : Int32) = nI 1 from rfl, tI_xor]
      unfold stp at hth
      rw [if_pos z, if_pos z1] at hth
      exact hth
    · have hv := hps z
      rcases i32_cases x with c | ⟨v, hv31, hx⟩
      · exact absurd c z
      · subst hx
        rw [nI_clamp hv31] at hv
        rw [stp_test hv] at hth
        have esh : nI o <<< ((1 : Int32) &&& 31) = nI (o * 2) := tI_shl (a := o) (k := 1) (by decide)
        refine x_isTrue hv hf2 (fun c => ⟨fun _ => ?_, fun z2 => absurd rfl z2⟩) (fun c => ⟨fun z2 => absurd z2 (by decide), fun _ => ?_⟩)
        · rw [esh, show (0 : Int32) = nI 0 from rfl, tI_or]
          rw [c] at hth; exact hth
        · rw [esh, show (1 : Int32) = nI 1 from rfl, tI_or]
          rw [c] at hth; exact hth
/-- where nothing is laid down nothing is barred -/
theorem rul_0 {r : Nat} (hu : rul D hb r σ) (h0 : σ.1 r 1 = 0) {a b m s q : Nat} (ha : a < 8) (hb8 : b < 8) (hm : m < 3) (hs : s ≤ 10) (hq : q ≤ 10) : hb a b m s q = false := by
  obtain ⟨-, -, -, -, L, hL, h1, hneg, hpos, hrun⟩ := hu
  obtain ⟨hlt, hval⟩ := hrun a b m s q ha hb8 hm hs hq
  have hL0 : L = 0 := (nI_eq (b := 0) (by omega) (by decide)).mp (by rw [← h1]; exact h0)
  subst hL0
  cases c : hb a b m s q with
  | false => rfl
  | true => exact absurd rfl (hval.mp c)
/-- all but masks and facts is as it was -/
def LE (σ σ' : hv_S) : Prop := σ'.2 = σ.2 ∧ ∀ k, k ≠ 16 → k ≠ 17 → ∀ j, σ'.1 k j = σ.1 k j
theorem rul_le {r : Nat} {σ' : hv_S} (hr : hv_isR r) (h : rul D hb r σ) (e : ∀ k, k ≠ 16 → k ≠ 17 → ∀ j, σ'.1 k j = σ.1 k j) : rul D hb r σ' := by
  refine rul_of h (fun k hk j => ?_)
  simp at hk
  rcases hr with rfl | rfl <;> rcases hk with rfl | rfl <;> exact e _ (by decide) (by decide) j
theorem x_maskOf {Φ : Int32 → hv_S → Prop} {a m : Nat} (h6 : ∀ c, c < 24 → σ.1 3 c = nI (D 6 c) ∧ D 6 c ≤ 10) (hr : hv_isR (σ.2.2 15 3)) (hu : rul D hb (σ.2.2 15 3) σ) (ha : a < 8) (hm : m < 3)
    (k : ∀ σ', σ'.2 = σ.2 → (∀ k, k ≠ 17 → ∀ j, σ'.1 k j = σ.1 k j) → Φ (nI (msk (fun b => bar D hb m a b) 8)) σ') : hv_CI l (hv_e1 e) 2 m_X3_maskOf [.ref 15, .int (nI a), .int (nI m)] σ Φ := by
  have ec : ∀ i, i < 8 → nI m * 8 + nI i = nI (8 * m + i) := fun i _ => by simp only [lI, pk_mul, nI_add]; rw [Nat.mul_comm]
  refine B_X3_maskOf _ _ ⟨vp_in_nI (n := 0) (by decide) (by decide), vp_in_nI (n := 2) (by decide) (by decide), B_X9_cell _ _ ?_⟩
  rw [ec a ha, nI_clamp (by omega)]
  refine ⟨vp_in_nI (by omega) (by decide), vp_in_nI (n := 4) (by decide) (by decide), ?_⟩
  have e3 : (hv_ui (hv_ui σ 17 0 (nI a)) 17 2 (nI m)).1 3 (8 * m + a) = nI (D 6 (8 * m + a)) := by
    rw [ui_1, ui_1, if_neg (fun z => absurd z.1 (by decide)), if_neg (fun z => absurd z.1 (by decide))]; exact (h6 _ (by omega)).1
  rw [e3]
  suffices ∀ d i σ', i + d = 8 → σ'.2 = σ.2 → (∀ k, k ≠ 17 → ∀ j, σ'.1 k j = σ.1 k j) → σ'.1 17 0 = nI a → σ'.1 17 2 = nI m → σ'.1 17 4 = nI (D 6 (8 * m + a)) → L_X3_maskOf_38 l e Φ (nI m) (nI (msk (fun b => bar D hb m a b) i)) (nI i) σ' by
    refine this 8 0 _ (by omega) rfl (fun k hk j => ?_) ?_ ?_ ?_
    · simp only [ui_1, hk, false_and, if_false]
    · simp [ui_1]
    · simp [ui_1]
    · simp [ui_1]
  intro d
  induction d with
  | zero =>
    intro i σ' hi h2 hk g0 g2 g4
    have hi8 : i = 8 := by omega
    subst hi8
    exact B_X3_maskOf_38 _ _ _ ⟨fun _ => k σ' h2 hk, fun q => absurd (nI_le (a := 8) (b := 8) (by decide) (by decide)) q⟩
  | succ d ih =>
    intro i σ' hi h2 hk g0 g2 g4
    have eR : σ'.2.2 = σ.2.2 := by rw [h2]
    refine B_X3_maskOf_38 _ _ _ ⟨fun q => absurd q (nI_ge (a := i) (b := 8) (by omega) (by decide)), fun _ => ⟨vp_in_nI (n := 1) (by decide) (by decide), B_X9_cell _ _ ?_⟩⟩
    rw [ec i (by omega), nI_clamp (by omega), nI_1, one_shl (by omega), tI_or]
    have e6 : (hv_ui σ' 17 1 (nI i)).1 3 (8 * m + i) = nI (D 6 (8 * m + i)) := by
      rw [ui_1, if_neg (fun z => absurd z.1 (by decide)), hk 3 (by decide)]; exact (h6 _ (by omega)).1
    rw [e6]
    refine ⟨vp_in_nI (by omega) (by decide), vp_in_nI (n := 3) (by decide) (by decide), ?_⟩
    show hv_isR (σ'.2.2 15 3) ∧ hv_CI l (hv_e1 e) 1 m_X4_forbid [.ref (σ'.2.2 15 3), .ref 17] _ _
    rw [eR]
    obtain ⟨σ2, hσ2⟩ : ∃ σ2, σ2 = hv_ui (hv_ui σ' 17 1 (nI i)) 17 3 (nI (D 6 (8 * m + i))) := ⟨_, rfl⟩
    rw [← hσ2]
    have hk2 : ∀ k, k ≠ 17 → ∀ j, σ2.1 k j = σ.1 k j := fun k hk17 j => by
      rw [hσ2]; simp only [ui_1, hk17, false_and, if_false]; exact hk k hk17 j
    refine ⟨hr, x_forbid (a := a) (b := i) (m := m) (s := D 6 (8 * m + i)) (q := D 6 (8 * m + a)) hr (rul_le hr hu (fun k _ hk17 j => hk2 k hk17 j)) ha (by omega) hm (h6 _ (by omega)).2 (h6 _ (by omega)).2 (fun k hk5 => ?_) (fun c => ⟨fun _ => ?_, fun z => absurd rfl z⟩) (fun c => ⟨fun z => absurd z (by decide), fun _ => ?_⟩)⟩
    · rw [hσ2]
      rcases (show k = 0 ∨ k = 1 ∨ k = 2 ∨ k = 3 ∨ k = 4 by omega) with rfl | rfl | rfl | rfl | rfl
      · simp only [ui_1]; exact g0
      · simp only [ui_1]; rfl
      · simp only [ui_1]; exact g2
      · simp only [ui_1]; rfl
      · simp only [ui_1]; exact g4
    all_goals
      have q0 : σ2.1 17 0 = nI a := by rw [hσ2]; simp only [ui_1]; exact g0
      have q2 : σ2.1 17 2 = nI m := by rw [hσ2]; simp only [ui_1]; exact g2
      have q4 : σ2.1 17 4 = nI (D 6 (8 * m + a)) := by rw [hσ2]; simp only [ui_1]; exact g4
      have q5 : σ2.2 = σ.2 := by rw [hσ2]; exact h2
    · rw [← msk_step (p := fun b => bar D hb m a b) (i := i) c]
      exact ih (i + 1) σ2 (by omega) q5 hk2 q0 q2 q4
    · rw [msk_stepT (p := fun b => bar D hb m a b) (i := i) c]
      exact ih (i + 1) σ2 (by omega) q5 hk2 q0 q2 q4
theorem x_learn {Φ : hv_S → Prop} {m : Nat} (h6 : ∀ c, c < 24 → σ.1 3 c = nI (D 6 c) ∧ D 6 c ≤ 10) (hr : hv_isR (σ.2.2 15 3)) (hu : rul D hb (σ.2.2 15 3) σ) (hm : m < 3)
    (k : ∀ σ', LE σ σ' → (∀ a, a < 8 → σ'.1 16 (8 * m + a) = nI (msk (fun b => bar D hb m a b) 8)) → (∀ c, (c < 8 * m ∨ 8 * m + 8 ≤ c) → σ'.1 16 c = σ.1 16 c) → Φ σ') : hv_CV l (hv_e1 e) 3 m_X3_learn [.ref 15, .int (nI m)] σ Φ := by
  have ec : ∀ i, i < 8 → nI m * 8 + nI i = nI (8 * m + i) := fun i _ => by simp only [lI, pk_mul, nI_add]; rw [Nat.mul_comm]
  refine B_X3_learn _ ?_
  suffices ∀ d i σ', i + d = 8 → LE σ σ' → (∀ a, a < i → σ'.1 16 (8 * m + a) = nI (msk (fun b => bar D hb m a b) 8)) → (∀ c, (c < 8 * m ∨ 8 * m + 8 ≤ c) → σ'.1 16 c = σ.1 16 c) → L_X3_learn_2 l e Φ (nI m) (nI i) σ' by
    exact this 8 0 σ (by omega) ⟨rfl, fun _ _ _ _ => rfl⟩ (fun a ha => by omega) (fun _ _ => rfl)
  intro d
  induction d with
  | zero =>
    intro i σ' hi hE hM ho
    have hi8 : i = 8 := by omega
    subst hi8
    exact B_X3_learn_2 _ _ ⟨fun _ => k σ' hE hM ho, fun q => absurd (nI_le (a := 8) (b := 8) (by decide) (by decide)) q⟩
  | succ d ih =>
    intro i σ' hi hE hM ho
    have eR : σ'.2.2 = σ.2.2 := by rw [hE.1]
    refine B_X3_learn_2 _ _ ⟨fun q => absurd q (nI_ge (a := i) (b := 8) (by omega) (by decide)), fun _ => B_X9_cell _ _ ?_⟩
    rw [ec i (by omega), nI_clamp (by omega), nI_1, eR]
    have hr1 : σ.2.2 15 3 ≠ 16 ∧ σ.2.2 15 3 ≠ 17 := by rcases hr with z | z <;> rw [z] <;> decide
    have hu' := rul_le hr hu hE.2
    have put : ∀ σ2 : hv_S, σ2.2 = σ.2 → (∀ k, k ≠ 17 → ∀ j, σ2.1 k j = σ'.1 k j) → L_X3_learn_2 l e Φ (nI m) (nI (i + 1)) (hv_ui σ2 16 (8 * m + i) (nI (msk (fun b => bar D hb m i b) 8))) := fun σ2 s1 s2 => by
      refine ih (i + 1) _ (by omega) ⟨s1, fun k h16 h17 j => ?_⟩ (fun a ha => ?_) (fun c hc => ?_)
      · rw [ui_1, if_neg (fun z => h16 z.1), s2 k h17]; exact hE.2 k h16 h17 j
      · rw [ui_1]
        by_cases c : a = i
        · subst c; rw [if_pos ⟨rfl, rfl⟩]
        · rw [if_neg (fun z => by omega), s2 16 (by decide)]; exact hM a (by omega)
      · rw [ui_1, if_neg (fun z => by omega), s2 16 (by decide)]; exact ho c hc
    refine ⟨hr, fun _ => x_maskOf (D := D) (hb := hb) (fun c hc => ⟨by rw [hE.2 3 (by decide) (by decide)]; exact (h6 c hc).1, (h6 c hc).2⟩) (by rw [eR]; exact hr) (by rw [eR]; exact hu') (by omega) hm (fun σ2 s1 s2 => ⟨vp_in_nI (by omega) (by decide), put σ2 (by rw [s1]; exact hE.1) s2⟩), fun q => ⟨vp_in_nI (by omega) (by decide), ?_⟩⟩
    have hz : msk (fun b => bar D hb m i b) 8 = 0 := by
      refine tb_ext (n := 8) (msk8 _) (Nat.two_pow_pos 8) (fun b hb8 => ?_)
      rw [mskI _ b hb8, Nat.zero_testBit]
      exact rul_0 hu' q (by omega) hb8 hm (h6 _ (by omega)).2 (h6 _ (by omega)).2
    have := put σ' hE.1 (fun _ _ _ => rfl)
    rw [hz] at this
    exact this
end LW2
