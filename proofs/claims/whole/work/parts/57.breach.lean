-- all but the scratch, the wishes' own too
def XF (σ σ' : hv_S) : Prop := σ'.2.2 = σ.2.2 ∧ ∀ k, (k < 17 ∨ 36 < k) → (∀ j, σ'.1 k j = σ.1 k j) ∧ ∀ j, σ'.2.1 k j = σ.2.1 k j
theorem XE.w {σ σ' : hv_S} (h : XE σ σ') : XF σ σ' := ⟨h.1, fun k hk => h.2 k (by omega)⟩
theorem XF.refl (σ : hv_S) : XF σ σ := ⟨rfl, fun _ _ => ⟨fun _ => rfl, fun _ => rfl⟩⟩
theorem XF.trans {σ σ' σ'' : hv_S} (h : XF σ σ') (h2 : XF σ' σ'') : XF σ σ'' := ⟨h2.1.trans h.1, fun k hk => ⟨fun j => ((h2.2 k hk).1 j).trans ((h.2 k hk).1 j), fun j => ((h2.2 k hk).2 j).trans ((h.2 k hk).2 j)⟩⟩
theorem XF.eqI {σ σ' : hv_S} (h : XF σ σ') (ks : List Nat) (hk : ks.all (fun k => decide (k < 17 ∨ 36 < k)) = true) : eqI ks σ σ' := fun k hm j => (h.2 k (by have := List.all_eq_true.mp hk k hm; simpa using this)).1 j
theorem RX.off {D : hD} {hb : hB} {It : hT} {σ σ' : hv_S} (h : RX D hb It σ) (e : XF σ σ') : RX D hb It σ' :=
  ⟨rxH_of h.1 (e.eqI _ (by decide)), rxT_of h.2.1 (e.eqI _ (by decide)), rxL_of h.2.2.1 (e.eqI _ (by decide)) e.1, rxA_of h.2.2.2.1 (e.eqI _ (by decide)), rxP_of h.2.2.2.2 (e.eqI _ (by decide)) (fun j => (e.2 42 (Or.inr (by decide))).2 j)⟩
theorem XF.ul {σ : hv_S} {k j : Nat} {v : Int64} (h : ¬ (k < 17 ∨ 36 < k)) : XF σ (hv_ul σ k j v) := ⟨rfl, fun k' hk => ⟨fun _ => rfl, fun j' => if_neg (fun (q : k' = k ∧ j' = j) => h (q.1 ▸ hk))⟩⟩
-- BREACH
theorem prp_x {W W' C C' : Int} {v v' c c' : Nat → Int} (h : prp W v C c) (h' : prp W' v' C' c') (b : Nat) : v' b * W < v b * W' ↔ c' b * C < c b * C' := by
  have e1 := h.2.2 b
  have e2 := h'.2.2 b
  refine prp_lt (W := W * W') (W' := C * C') (Int.mul_pos h.1 h'.1) (Int.mul_pos h.2.1 h'.2.1) ?_ ?_
  · have : v' b * W * (C * C') = (v' b * C') * (W * C) := by grind
    rw [this, e2]; grind
  · have : v b * W' * (C * C') = (v b * C) * (W' * C') := by grind
    rw [this, e1]; grind
noncomputable def alo (D : hD) (hb : hB) (m : Nat) (a : Nat) : Bool := GX D hb m (D 0 1) 0 none a a == 10
/-- b is told less if a hands on to b -/
noncomputable def brL (D : hD) (hb : hB) (m a b : Nat) : Bool := decide ((cnV D hb m (D 0 1) 0 (some (a, b))).2 b * (cnV D hb m (D 0 1) 0 none).1 < (cnV D hb m (D 0 1) 0 none).2 b * (cnV D hb m (D 0 1) 0 (some (a, b))).1)
noncomputable def brJ (D : hD) (hb : hB) (m a : Nat) : Nat → Nat → Option Nat
  | 0, _ => none
  | d + 1, b => if alo D hb m a = true ∧ alo D hb m b = true ∧ b ≠ a ∧ bar D hb m a b = false ∧ brL D hb m a b = true then some (10 * a + b) else brJ D hb m a d (b + 1)
noncomputable def brI (D : hD) (hb : hB) (m : Nat) : Nat → Nat → Option Nat
  | 0, _ => none
  | d + 1, a => (brJ D hb m a (D 0 0) 0).or (brI D hb m d (a + 1))
noncomputable def brch (D : hD) (hb : hB) (m : Nat) : Option Nat := brI D hb m (D 0 0) 0
section BR
variable {l : Launch} {e : hv_Ev} {σ : hv_S} {D : hD} {hb : hB} {It : hT} {m : Nat}
theorem x_firstBreach {Φ : Int32 → hv_S → Prop} (hR : RX D hb It σ) (hm : m < 3) (hW : hWF D) (k : ∀ σ', XF σ σ' → Φ (oR (brch D hb m)) σ') :
    hv_CI l (hv_e1 e) 6 m_X8_firstBreach [.ref 35, .int (nI m)] σ Φ := by
  have hn := hW.1
  refine B_X8_firstBreach _ ?_
  rw [hR.1.2.1]
  refine x_reckon (S := 0) (gt := none) hR hm hW hW.2.1 (by decide) gtW0 (fun σ1 W v h1 => ?_)
  have h6 : σ1.2.1 21 6 = lZ W := h1.2.2.2.1.1
  rw [h6]
  have hv := isV_nn h1.2.1
  have hW0 := h1.2.1.1
  have hW8 := h1.2.2.1
  have hc := rk_c hW hm gtW0 h1
  have hGr := GX_row (hb := hb) (w := D 0 1) (S := 0) (gt := none) hW hm gtW0
  -- who speaks alone
  suffices h100 : ∀ σ2, XF σ σ2 → (∀ a, a < D 0 0 → σ2.2.1 36 a = lZ (v a)) → L_X8_firstBreach_100 l e Φ (nI m) (lZ W) (nI (msk (alo D hb m) (D 0 0))) 0 σ2 by
    suffices ∀ d i σ2, i + d = D 0 0 → XF σ σ2 → (∀ a, a < 8 → σ2.2.1 32 a = lZ (v a)) → (∀ j, σ2.1 19 j = σ1.1 19 j) → (∀ a, a < i → σ2.2.1 36 a = lZ (v a)) → L_X8_firstBreach_32 l e Φ (nI m) (lZ W) (nI (msk (alo D hb m) i)) (nI i) σ2 by
      exact this (D 0 0) 0 σ1 (by omega) h1.1.w h1.2.2.2.1.2.2 (fun _ => rfl) (fun a ha => absurd ha (Nat.not_lt_zero _))
    intro d
    induction d with
    | zero =>
      intro i σ2 hi hX2 h32 h19 h36
      have hin : i = D 0 0 := by omega
      subst hin
      exact B_X8_firstBreach_32 _ _ _ _ ⟨fun _ => h100 σ2 hX2 h36, fun q => absurd (by rw [(hR.off hX2).1.1]; exact nI_le (Nat.le_refl _) (by omega)) q⟩
    | succ d ih =>
      intro i σ2 hi hX2 h32 h19 h36
      have hi8 : i < D 0 0 := by omega
      have hR2 := hR.off hX2
      have e8 : nI i * 8 + nI i = nI (i * 8 + i) := by simp only [lI, pk_mul, nI_add]
      have hg := h1.2.2.2.2 i i (by omega) (by omega)
      rw [if_pos hi8] at hg
      have hle := row_le hGr hi8 hi8
      refine B_X8_firstBreach_32 _ _ _ _ ⟨fun q => absurd q (by rw [hR2.1.1]; exact nI_ge (by omega) (by omega)), fun _ => ⟨vp_in_nI (by omega) (by decide), vp_in_nI (by omega) (by decide), by rw [e8]; exact vp_in_nI (by omega) (by decide), ?_⟩⟩
      rw [e8, nI_clamp (by omega), nI_clamp (by omega), h19, hg, h32 i (by omega), nI_1, one_shl (by omega), tI_or]
      have hX3 : XF σ (hv_ul σ2 36 i (lZ (v i))) := hX2.trans (XF.ul (by decide))
      have h32' : ∀ a, a < 8 → (hv_ul σ2 36 i (lZ (v i))).2.1 32 a = lZ (v a) := fun a ha => by rw [ul_1, if_neg (fun c => absurd c.1 (by decide))]; exact h32 a ha
      have h36' : ∀ a, a < i + 1 → (hv_ul σ2 36 i (lZ (v i))).2.1 36 a = lZ (v a) := fun a ha => by
        rw [ul_1]
        by_cases c : a = i
        · rw [if_pos ⟨rfl, c⟩, c]
        · rw [if_neg (fun c2 => c c2.2)]; exact h36 a (by omega)
      refine ⟨fun q => ?_, fun q => ?_⟩
      · have q2 : GX D hb m (D 0 1) 0 none i i ≠ 10 := fun c => q (by rw [c]; rfl)
        rw [← msk_step (p := alo D hb m) (i := i) (by unfold alo; simpa using q2)]
        exact ih (i + 1) _ (by omega) hX3 h32' h19 h36'
      · have q2 : GX D hb m (D 0 1) 0 none i i = 10 := (nI_eq (b := 10) (by omega) (by decide)).mp q
        rw [msk_stepT (p := alo D hb m) (i := i) (by unfold alo; simpa using q2)]
        exact ih (i + 1) _ (by omega) hX3 h32' h19 h36'
  intro σ2 hX2 h36
  have hAl : msk (alo D hb m) (D 0 0) < 2 ^ D 0 0 := msk_lt _ _
  have hA8 : msk (alo D hb m) (D 0 0) < 256 := Nat.lt_of_lt_of_le hAl (Nat.pow_le_pow_right (by decide) hn)
  have hAb : ∀ a, a < D 0 0 → (msk (alo D hb m) (D 0 0)).testBit a = alo D hb m a := fun a ha => by rw [msk_bit]; simp [ha]
  generalize msk (alo D hb m) (D 0 0) = A at *
  suffices ∀ d i σ2, i + d = D 0 0 → XF σ σ2 → (∀ a, a < D 0 0 → σ2.2.1 36 a = lZ (v a)) → (∀ σ', XF σ σ' → Φ (oR (brI D hb m d i)) σ') → L_X8_firstBreach_100 l e Φ (nI m) (lZ W) (nI A) (nI i) σ2 by
    exact this (D 0 0) 0 σ2 (by omega) hX2 h36 k
  intro d
  induction d with
  | zero =>
    intro i σ2 hi hX2 h36 hk
    have hin : i = D 0 0 := by omega
    subst hin
    exact B_X8_firstBreach_100 _ _ _ _ ⟨fun _ => hk σ2 hX2, fun q => absurd (by rw [(hR.off hX2).1.1]; exact nI_le (Nat.le_refl _) (by omega)) q⟩
  | succ d ih =>
    intro i σ2 hi hX2 h36 hk
    have hi8 : i < D 0 0 := by omega
    have hR2 := hR.off hX2
    -- the takers
    suffices hT : ∀ T, T < 256 → (∀ b, b < D 0 0 → (T.testBit b = true ↔ (alo D hb m i = true ∧ alo D hb m b = true ∧ b ≠ i))) → L_X8_firstBreach_140 l e Φ (nI m) (lZ W) (nI A) (nI i) (nI T) 0 σ2 by
      refine B_X8_firstBreach_100 _ _ _ _ ⟨fun q => absurd q (by rw [hR2.1.1]; exact nI_ge (by omega) (by omega)), fun _ => ⟨fun q => ?_, fun q => ?_⟩⟩
      · have q1 : A.testBit i = true := by
          cases c : A.testBit i with
          | true => rfl
          | false => exact absurd ((bt_0 (by omega) (by omega)).mpr c) q
        rw [one_shl (by omega), mns_I]
        refine hT (mns A (2 ^ i)) (mns_lt (n := 8) hA8 _) (fun b hb' => ?_)
        rw [mns_b (by omega), tb_2, hAb b hb', ← hAb i hi8, q1]
        simp [show (i = b) ↔ (b = i) from ⟨fun h => h.symm, fun h => h.symm⟩]
      · have q1 := (bt_0 (by omega) (by omega)).mp q
        refine hT 0 (by decide) (fun b hb' => ?_)
        rw [Nat.zero_testBit, ← hAb i hi8, q1]
        simp
    intro T hT8 hTb
    have eI : brI D hb m (d + 1) i = (brJ D hb m i (D 0 0) 0).or (brI D hb m d (i + 1)) := rfl
    rw [eI] at hk
    suffices ∀ f j σ4, j + f = D 0 0 → XF σ σ4 → (∀ a, a < D 0 0 → σ4.2.1 36 a = lZ (v a)) → (∀ σ', XF σ σ' → Φ (oR ((brJ D hb m i f j).or (brI D hb m d (i + 1)))) σ') → L_X8_firstBreach_140 l e Φ (nI m) (lZ W) (nI A) (nI i) (nI T) (nI j) σ4 by
      exact this (D 0 0) 0 σ2 (by omega) hX2 h36 hk
    intro f
    induction f with
    | zero =>
      intro j σ4 hj hX4 h46 hk4
      have hjn : j = D 0 0 := by omega
      subst hjn
      refine B_X8_firstBreach_140 _ _ _ _ _ _ ⟨fun _ => ?_, fun q => absurd (by rw [(hR.off hX4).1.1]; exact nI_le (Nat.le_refl _) (by omega)) q⟩
      rw [nI_1]
      exact ih (i + 1) σ4 (by omega) hX4 h46 hk4
    | succ f ihf =>
      intro j σ4 hj hX4 h46 hk4
      have hj8 : j < D 0 0 := by omega
      have hR4 := hR.off hX4
      have eJ : brJ D hb m i (f + 1) j = if alo D hb m i = true ∧ alo D hb m j = true ∧ j ≠ i ∧ bar D hb m i j = false ∧ brL D hb m i j = true then some (10 * i + j) else brJ D hb m i f (j + 1) := rfl
      rw [eJ] at hk4
      refine B_X8_firstBreach_140 _ _ _ _ _ _ ⟨fun q => absurd q (by rw [hR4.1.1]; exact nI_ge (by omega) (by omega)), fun _ => ?_⟩
      rw [nI_1]
      refine ⟨fun q => ?_, fun q => ?_⟩
      · have q1 := (bt_0 (by omega) (by omega)).mp q
        rw [if_neg (fun c => by rw [(hTb j hj8).mpr ⟨c.1, c.2.1, c.2.2.1⟩] at q1; exact absurd q1 (by decide))] at hk4
        exact ihf (j + 1) σ4 (by omega) hX4 h46 hk4
      · have q1 : T.testBit j = true := by
          cases c : T.testBit j with
          | true => rfl
          | false => exact absurd ((bt_0 (by omega) (by omega)).mpr c) q
        obtain ⟨t1, t2, t3⟩ := (hTb j hj8).mp q1
        refine x_bars hR4 hm (by omega) (by omega) (fun c => ⟨fun _ => ?_, fun q3 => absurd rfl q3⟩) (fun c => ⟨fun q3 => absurd q3 (by decide), fun _ => ?_⟩)
        · have hgw := gtW2 hi8 hj8 (fun c2 => t3 c2.symm)
          rw [hR4.1.2.1]
          refine x_reckon (S := 0) (gt := some (i, j)) hR4 hm hW hW.2.1 (by decide) hgw (fun σ5 W' v' h5 => ?_)
          have hc5 := rk_c hW hm hgw h5
          have hv5 := isV_nn h5.2.1
          have w50 := h5.2.1.1
          have w58 := h5.2.2.1
          have hX5 : XF σ σ5 := hX4.trans h5.1.w
          have h56 : ∀ a, a < D 0 0 → σ5.2.1 36 a = lZ (v a) := fun a ha => by rw [(h5.1.2 36 (Or.inr (by decide))).2]; exact h46 a ha
          refine ⟨vp_in_nI (by omega) (by decide), vp_in_nI (by omega) (by decide), ?_⟩
          have p1 := Int.mul_nonneg (hv j).1 (show 0 ≤ W' by omega)
          have p2 := Int.mul_nonneg (hv5 j).1 (show 0 ≤ W by omega)
          have p3 : v j * W' ≤ v j * 100000000 := Int.mul_le_mul_of_nonneg_left w58 (hv j).1
          have p4 : v' j * W ≤ v' j * 100000000 := Int.mul_le_mul_of_nonneg_left hW8 (hv5 j).1
          have p5 := (hv j).2
          have p6 := (hv5 j).2
          rw [nI_clamp (by omega), h56 j hj8, h5.2.2.2.1.1, h5.2.2.2.1.2.2 j (by omega), lZ_mul, lZ_mul, lZ_le (by omega) (by omega) (by omega) (by omega)]
          have hx := prp_x hc hc5 j
          refine ⟨fun q4 => ?_, fun q4 => ?_⟩
          · rw [if_neg (fun c2 => by have := hx.mpr (of_decide_eq_true c2.2.2.2.2); omega)] at hk4
            exact ihf (j + 1) σ5 (by omega) hX5 h56 hk4
          · rw [if_pos ⟨t1, t2, t3, c, decide_eq_true (hx.mp (by omega))⟩] at hk4
            have e2 : (10 : Int32) * nI i + nI j = nI (10 * i + j) := by rw [show (10 : Int32) = nI 10 from rfl, pk_mul, nI_add]
            rw [e2]
            exact hk4 σ5 hX5
        · rw [if_neg (fun c2 => by rw [c] at c2; exact absurd c2.2.2.2.1 (by decide))] at hk4
          exact ihf (j + 1) σ4 (by omega) hX4 h46 hk4
end BR
