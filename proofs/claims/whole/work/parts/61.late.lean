-- the last minute that tells otherwise
def tkb (D : hD) (m w : Nat) : Nat := msk (fun a => !decide (w < D 2 (8 * m + a))) (D 0 0)
noncomputable def ltR (D : hD) (hb : hB) (m : Nat) (so : Bool) : Nat → Option Nat
  | 0 => none
  | d + 1 => if dcC D hb m (D 0 1 + (d + 1)) 0 (yeM D m) ≠ so then some (D 0 1 + (d + 1)) else ltR D hb m so d
noncomputable def late (D : hD) (hb : hB) (m : Nat) : Option Nat := ltR D hb m (dcC D hb m (D 0 1) 0 (yeM D m)) (99 - D 0 1)
theorem tkb_same {D : hD} {hb : hB} {m w w' : Nat} (h : tkb D m w = tkb D m w') (Y : Nat) : dcC D hb m w 0 Y = dcC D hb m w' 0 Y := by
  unfold dcC
  rw [cnV_congr (D' := D) (hb' := hb) (m' := m) (w' := w') (S' := 0) (gt' := none) rfl rfl rfl (fun a ha => ?_)]
  have hbit : (tkb D m w).testBit a = (tkb D m w').testBit a := by rw [h]
  unfold tkb at hbit
  rw [msk_bit, msk_bit] at hbit
  have hiff : (w < D 2 (8 * m + a)) ↔ (w' < D 2 (8 * m + a)) := by
    simp [ha] at hbit
    omega
  show ehS 0 (ehD D m w) a = ehS 0 (ehD D m w') a
  unfold ehS
  rw [Nat.zero_testBit]
  show ehD D m w a = ehD D m w' a
  unfold ehD
  simp only [hiff]
theorem nI_m1 (k : Nat) : nI (k + 1) + (-1) = nI k := by rw [← nI_1, Int32.add_assoc, show (1 + -1 : Int32) = 0 by decide, Int32.add_zero]
theorem bI_eq (a b : Bool) : bI a = bI b ↔ a = b := by cases a <;> cases b <;> decide
section LA
variable {l : Launch} {e : hv_Ev} {σ : hv_S} {D : hD} {hb : hB} {It : hT} {m : Nat}
theorem x_takenBackAt {Φ : Int32 → hv_S → Prop} {w : Nat} (hR : RX D hb It σ) (hm : m < 3) (hW : hWF D) (hw : w ≤ 99) (k : Φ (nI (tkb D m w)) σ) :
    hv_CI l (hv_e1 e) 1 m_X2_takenBackAt [.ref 1, .int (nI m), .int (nI w)] σ Φ := by
  have hn := hW.1
  refine B_X2_takenBackAt _ _ ?_
  suffices ∀ d i, i + d = D 0 0 → L_X2_takenBackAt_5 l e Φ (nI m) (nI w) (nI (msk (fun a => !decide (w < D 2 (8 * m + a))) i)) (nI i) σ by exact this (D 0 0) 0 (by omega)
  intro d
  induction d with
  | zero =>
    intro i hi
    have hin : i = D 0 0 := by omega
    subst hin
    exact B_X2_takenBackAt_5 _ _ _ _ ⟨fun _ => k, fun q => absurd (by rw [hR.1.1]; exact nI_le (Nat.le_refl _) (by omega)) q⟩
  | succ d ih =>
    intro i hi
    have hc : 8 * m + i < 24 := by omega
    have ec : nI m * 8 + nI i = nI (8 * m + i) := by simp only [lI, pk_mul, nI_add]; rw [Nat.mul_comm]
    have h100 := (hW.2.2.2.2.2.2.2.2.2.1 _ hc).2.1
    refine B_X2_takenBackAt_5 _ _ _ _ ⟨fun q => absurd q (by rw [hR.1.1]; exact nI_ge (by omega) (by omega)), fun _ => B_X9_cell _ _ ?_⟩
    rw [ec, nI_1, one_shl (by omega), tI_or, nI_clamp (by omega), (hR.1.2.2.2 _ hc).2.2.1, nI_ltI (by omega) (by omega)]
    refine ⟨vp_in_nI hc (by decide), fun c => ?_, fun c => ?_⟩
    · rw [← msk_step (p := fun a => !decide (w < D 2 (8 * m + a))) (i := i) (by simp [c])]
      exact ih (i + 1) (by omega)
    · rw [msk_stepT (p := fun a => !decide (w < D 2 (8 * m + a))) (i := i) (by simp; omega)]
      exact ih (i + 1) (by omega)
theorem tkb_lt (hn : D 0 0 ≤ 8) (w : Nat) : tkb D m w < 256 := Nat.lt_of_lt_of_le (msk_lt _ _) (Nat.pow_le_pow_right (by decide) hn)
theorem x_lastOtherwise {Φ : Int32 → hv_S → Prop} (hR : RX D hb It σ) (hm : m < 3) (hW : hWF D) (k : ∀ σ', XE σ σ' → Φ (oR (late D hb m)) σ') :
    hv_CI l (hv_e1 e) 6 m_X8_lastOtherwise [.ref 35, .int (nI m)] σ Φ := by
  have hn := hW.1
  have hw := hW.2.1
  refine B_X8_lastOtherwise _ ?_
  rw [hR.1.2.1]
  refine x_decidedAt hR hm hW hw (fun σ1 hX1 => ?_)
  have hR1 := hR.of hX1
  rw [hR1.1.2.1]
  refine x_takenBackAt hR1 hm hW hw ?_
  unfold late at k
  generalize hso : dcC D hb m (D 0 1) 0 (yeM D m) = so at *
  suffices ∀ d r σ2, D 0 1 + d ≤ 99 → dcC D hb m r 0 (yeM D m) = so → XE σ σ2 → (∀ σ', XE σ σ' → Φ (oR (ltR D hb m so d)) σ') → L_X8_lastOtherwise_33 l e Φ (nI m) (bI so) (nI (tkb D m r)) (nI (D 0 1 + d)) σ2 by
    have h2 := this (99 - D 0 1) (D 0 1) σ1 (by omega) hso hX1 k
    rw [show D 0 1 + (99 - D 0 1) = 99 by omega] at h2
    exact h2
  intro d
  induction d with
  | zero =>
    intro r σ2 hd hr hX2 hk
    refine B_X8_lastOtherwise_33 _ _ _ _ ⟨fun _ => hk σ2 hX2, fun q => absurd (by rw [(hR.of hX2).1.2.1]; exact nI_le (Nat.le_refl _) (by omega)) q⟩
  | succ d ih =>
    intro r σ2 hd hr hX2 hk
    have hR2 := hR.of hX2
    have eL : ltR D hb m so (d + 1) = if dcC D hb m (D 0 1 + (d + 1)) 0 (yeM D m) ≠ so then some (D 0 1 + (d + 1)) else ltR D hb m so d := rfl
    rw [eL] at hk
    refine B_X8_lastOtherwise_33 _ _ _ _ ⟨fun q => absurd q (by rw [hR2.1.2.1]; exact nI_ge (by omega) (by omega)), fun _ => x_takenBackAt hR2 hm hW (by omega) ⟨fun q => ?_, fun q => ?_⟩⟩
    · refine x_decidedAt hR2 hm hW (by omega) (fun σ3 hX3 => ⟨fun q2 => ?_, fun q2 => ?_⟩)
      · have q3 := (bI_eq _ _).mp q2
        rw [if_neg (fun c => c q3)] at hk
        rw [show D 0 1 + (d + 1) = (D 0 1 + d) + 1 by omega, nI_m1]
        rw [show D 0 1 + (d + 1) = (D 0 1 + d) + 1 by omega] at q3
        exact ih _ σ3 (by omega) q3 (hX2.trans hX3) hk
      · have q3 : dcC D hb m (D 0 1 + (d + 1)) 0 (yeM D m) ≠ so := fun c => q2 ((bI_eq _ _).mpr c)
        rw [if_pos q3] at hk
        exact hk σ3 (hX2.trans hX3)
    · have l1 := tkb_lt (D := D) (m := m) hn (D 0 1 + (d + 1))
      have l2 := tkb_lt (D := D) (m := m) hn r
      have q3 : tkb D m (D 0 1 + (d + 1)) = tkb D m r := (nI_eq (by omega) (by omega)).mp q
      have q4 : dcC D hb m (D 0 1 + (d + 1)) 0 (yeM D m) = so := by rw [tkb_same q3]; exact hr
      rw [if_neg (fun c => c q4)] at hk
      rw [show D 0 1 + (d + 1) = (D 0 1 + d) + 1 by omega, nI_m1]
      exact ih r σ2 (by omega) hr hX2 hk
end LA
