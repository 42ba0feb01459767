-- MENDING
section ME
variable {l : Launch} {e : hv_Ev} {σ : hv_S} {D : hD} {hb : hB} {It : hT} {m : Nat}
theorem x_bestMending {Φ : Int32 → hv_S → Prop} {h n : Nat} (hR : RX D hb It σ) (hm : m < 3) (hW : hWF D) (hh : h ≤ 8) (hn8 : n ≤ 8) (k : ∀ σ', XE σ σ' → Φ (oR (mend D hb m h n)) σ') :
    hv_CI l (hv_e1 e) 6 m_X8_bestMending [.ref 35, .int (nI m), .int (nI h), .int (nI n)] σ Φ := by
  have hn := hW.1
  have hAl : msk (mov D m (D 0 1)) (D 0 0) < 2 ^ D 0 0 := msk_lt _ _
  have hA8 : msk (mov D m (D 0 1)) (D 0 0) < 256 := Nat.lt_of_lt_of_le hAl (Nat.pow_le_pow_right (by decide) hn)
  refine B_X8_bestMending _ _ _ (x_movers hR hm hW ?_)
  unfold mend at k
  generalize msk (mov D m (D 0 1)) (D 0 0) = A at *
  show L_X8_bestMending_22 l e Φ (nI m) (nI h) (nI n) (-5) 0 (-1) (nI A) 0 σ
  suffices ∀ d s f z g σ2, s + d = A + 1 → z ≤ 8 → -1 ≤ g ∧ g ≤ 100000000 → XE σ σ2 → (∀ σ', XE σ σ' → Φ (oR (meS D hb m h n A d s f z g)) σ') → L_X8_bestMending_22 l e Φ (nI m) (nI h) (nI n) (oR f) (nI z) (lZ g) (nI A) (nI s) σ2 by
    exact this (A + 1) 0 none 0 (-1) σ (by omega) (by omega) (by omega) (XE.refl σ) k
  intro d
  induction d with
  | zero =>
    intro s f z g σ2 hs hz8 hg hX2 hk
    have hsA : s = A + 1 := by omega
    refine B_X8_bestMending_22 _ _ _ _ _ _ _ _ ⟨fun _ => hk σ2 hX2, fun q => absurd ((nI_ltI (by omega) (by omega)).mpr (by omega)) q⟩
  | succ d ih =>
    intro s f z g σ2 hs hz8 hg hX2 hk
    have hR2 := hR.of hX2
    have hp := pop_le s 8
    have eF : meS D hb m h n A (d + 1) s f z g = if mns s A = 0 ∧ pop 8 s ≤ n ∧ hpC D hb m s h = true ∧ (g < chC D hb m s none ∨ chC D hb m s none = g ∧ pop 8 s < z) then meS D hb m h n A d (s + 1) (some s) (pop 8 s) (chC D hb m s none) else meS D hb m h n A d (s + 1) f z g := rfl
    rw [eF] at hk
    have hmn : mns s A < 256 := mns_lt (n := 8) (by omega) _
    refine B_X8_bestMending_22 _ _ _ _ _ _ _ _ ⟨fun q => absurd ((nI_ltI (by omega) (by omega)).mp q) (by omega), fun _ => j_bitCount (by omega) ?_⟩
    rw [mns_I, nI_1]
    refine ⟨fun q => ?_, fun q => ⟨fun q2 => ?_, fun q2 => ?_⟩⟩
    · rw [if_neg (fun c => q (by rw [c.1]; rfl))] at hk
      exact ih (s + 1) f z g σ2 (by omega) hz8 hg hX2 hk
    · have q1 : mns s A = 0 := (nI_eq (b := 0) (by omega) (by decide)).mp q
      have q3 := (nI_leI (by omega) (by omega)).mp q2
      rw [hR2.1.2.1]
      refine x_reckon (S := s) (gt := none) hR2 hm hW hW.2.1 (by omega) gtW0 (fun σ3 W v h3 => ?_)
      have hR3 := hR2.of h3.1
      have hc := rk_c hW hm gtW0 h3
      have hmx := mxI_b (v := v) (B := 800000000) (by omega) (fun a => (rk_b h3 a).2) (D 0 0)
      have w0 := h3.2.1.1
      have w8 := h3.2.2.1
      have b1 := Int.mul_nonneg (show (0 : Int) ≤ (h : Int) by omega) (show 0 ≤ W by omega)
      have b2 : (h : Int) * W ≤ (h : Int) * 100000000 := Int.mul_le_mul_of_nonneg_left w8 (by omega)
      have hhp : hpC D hb m s h = true ↔ mxI v (D 0 0) ≤ (h : Int) * W := by
        have hl := prp_lt (p := (h : Int) * W) (q := mxI v (D 0 0)) (p' := (h : Int) * (cnV D hb m (D 0 1) s none).1) (q' := mxI (cnV D hb m (D 0 1) s none).2 (D 0 0)) hc.1 hc.2.1 (by grind) (mxI_inv hc _)
        unfold hpC
        rw [decide_eq_true_iff]
        omega
      refine x_highest (v := v) hR3.1.1 hn h3.2.2.2.1.2.2 (rk_b h3) ?_
      rw [h3.2.2.2.1.1, nI_lZ (by omega), lZ_mul, lZ_le (by omega) (by omega) (by omega) (by omega), ← hhp]
      refine ⟨fun q4 => ?_, fun q4 => ?_⟩
      · refine x_chance (v := v) hR3 hm hW h3.2.2.2.1.2.1 h3.2.2.2.1.2.2 (rk_b h3) (fun σ4 hT4 _ _ => ?_)
        have e1 : cha D m v = chC D hb m s none := cha_inv hc
        have hX4 : XE σ σ4 := (hX2.trans h3.1).trans hT4.1
        have e2 : lZ (10 ^ (8 - pop 8 (msk (fun a => decide (0 < v a)) (D 0 0))) * chn D m v) = lZ (chC D hb m s none) := by rw [← e1]; rfl
        have hcb := chC_b (S := s) (gt := none) (hb := hb) hW hm
        rw [e2, lZ_lt (by omega) (by omega) (by omega) (by omega)]
        refine ⟨fun q5 => ?_, fun q5 => ⟨fun q6 => ?_, fun q6 => ⟨fun q7 => ?_, fun q7 => ?_⟩⟩⟩
        · rw [if_pos ⟨q1, q3, q4, Or.inl q5⟩] at hk
          exact ih (s + 1) (some s) (pop 8 s) _ σ4 (by omega) (by omega) (by omega) hX4 hk
        · have q8 : ¬ chC D hb m s none = g := fun c => q6 (by rw [c])
          rw [if_neg (fun c => c.2.2.2.elim q5 (fun c => q8 c.1))] at hk
          exact ih (s + 1) f z g σ4 (by omega) hz8 hg hX4 hk
        · have q8 := (nI_leI (by omega) (by omega)).mp q7
          rw [if_neg (fun c => c.2.2.2.elim q5 (fun c => absurd c.2 (by omega)))] at hk
          exact ih (s + 1) f z g σ4 (by omega) hz8 hg hX4 hk
        · have q8 : pop 8 s < z := by
            rcases Nat.lt_or_ge (pop 8 s) z with c | c
            · exact c
            · exact absurd ((nI_leI (by omega) (by omega)).mpr c) q7
          have q9 : chC D hb m s none = g := (lZ_eq (by omega) (by omega) (by omega) (by omega)).mp q6
          rw [if_pos ⟨q1, q3, q4, Or.inr ⟨q9, q8⟩⟩] at hk
          exact ih (s + 1) (some s) (pop 8 s) _ σ4 (by omega) (by omega) (by omega) hX4 hk
      · rw [if_neg (fun c => q4 c.2.2.1)] at hk
        exact ih (s + 1) f z g σ3 (by omega) hz8 hg (hX2.trans h3.1) hk
    · have q3 : ¬ pop 8 s ≤ n := fun c => q2 ((nI_leI (by omega) (by omega)).mpr c)
      rw [if_neg (fun c => q3 c.2.1)] at hk
      exact ih (s + 1) f z g σ2 (by omega) hz8 hg hX2 hk
end ME
