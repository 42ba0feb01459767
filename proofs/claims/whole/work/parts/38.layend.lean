-- layHand, layOrders, layFirm, lay
section WD
variable {l : Launch} {e : hv_Ev} {σ : hv_S} {D : hD} {hb : hB} {It : hT} {m : Nat} {h : hEH}
/-- a row set -/
def grow (g : Nat → Nat → Nat) (i : Nat) (r : Nat → Nat) : Nat → Nat → Nat := fun a b => if a = i then r b else g a b
theorem pt_pos {t v b : Nat} (hv : 0 < v) : 0 < pt t v b ↔ b = t := by unfold pt; split <;> simp_all
theorem x_layHand {Φ : hv_S → Prop} {g : Nat → Nat → Nat} {Bd i O : Nat} (hR : RX D hb It σ) (hm : m < 3) (hW : hWF D) (hB : spB σ (D 0 0) m O) (hg : spG σ g Bd) (hi : i < D 0 0) (h0 : ∀ b, b < 8 → g i b = 0)
    (hh : h i = (D 1 (8 * m + i), D 3 (8 * m + i), D 4 (8 * m + i), D 5 (8 * m + i))) (hk : (h i).1 = 2 ∨ (h i).1 = 4 ∨ (h i).1 = 5)
    (k : ∀ σ', SE σ σ' → spG σ' (grow g i (G0 (pfD D hb m) h i)) Bd → Φ σ') : hv_CV l (hv_e1 e) 2 m_X5_layHand [.ref 18, .int (nI i), .int (nI (8 * m + i))] σ Φ := by
  have hn := hW.1
  have hc : 8 * m + i < 24 := by omega
  obtain ⟨g1, g2, g3, g4, g5, g6⟩ := hR.1.2.2.2 (8 * m + i) hc
  have hd := hW.2.2.2.2.2.2.2.2.2.1 (8 * m + i) hc
  have hv : vp_in (nI (8 * m + i)) 24 := vp_in_nI hc (by decide)
  have hmod : (8 * m + i) % 8 = i := by omega
  unfold hnd at hd
  rw [hmod] at hd
  have hk1 : (h i).1 = D 1 (8 * m + i) := by rw [hh]
  have e31 : (h i).2.1 = D 3 (8 * m + i) := by rw [hh]
  have e32 : (h i).2.2.1 = D 4 (8 * m + i) := by rw [hh]
  have e33 : (h i).2.2.2 = D 5 (8 * m + i) := by rw [hh]
  refine B_X5_layHand _ _ ?_
  rw [nI_clamp (by omega), g2]
  have hk5 : D 1 (8 * m + i) ≤ 5 := hd.1
  refine ⟨hv, fun q => ?_, fun q => ?_⟩
  · have q1 : D 1 (8 * m + i) ≠ 5 := fun z => q (by rw [z]; rfl)
    rw [g4, g6]
    refine ⟨hv, hv, ?_⟩
    have hk24 : D 1 (8 * m + i) = 2 ∨ D 1 (8 * m + i) = 4 := by omega
    have hf : D 3 (8 * m + i) < D 0 0 ∧ D 3 (8 * m + i) ≠ i ∧ 1 ≤ D 5 (8 * m + i) := by omega
    rw [nmX_lt (by omega)]
    refine x_send (D := D) (hb := hb) (It := It) (m := m) hR hm hB hg (by omega) (by omega) hf.2.1 hf.2.2 (fun σ1 hS1 hg1 => ?_)
    have hR1 := hR.of hS1.1
    obtain ⟨f1, f2, f3, f4, f5, f6⟩ := hR1.1.2.2.2 (8 * m + i) hc
    rw [f2]
    refine ⟨hv, fun q2 => ?_, fun q2 => ?_⟩
    · have q3 : D 1 (8 * m + i) = 2 := by
        rcases hk24 with z | z
        · exact z
        · exact absurd (by rw [z]; rfl) q2
      have q4 : D 5 (8 * m + i) = 10 := by omega
      refine k σ1 hS1 (hg1.congr (fun a b ha hb' => ?_))
      unfold grow gad
      by_cases ea : a = i
      · subst ea
        rw [if_pos rfl, G0_2 (by rw [hk1]; exact q3), e31, q4]
        unfold pt
        rw [h0 b hb']
        by_cases eb : b = tg (pfD D hb m) a (D 3 (8 * m + a)) <;> simp [eb]
      · simp [ea]
    · have q3 : D 1 (8 * m + i) = 4 := by
        rcases hk24 with z | z
        · rw [z] at q2; exact absurd q2 (by decide)
        · exact z
      rw [f5, f6]
      refine ⟨hv, hv, ?_⟩
      have hf2 : D 4 (8 * m + i) < D 0 0 ∧ D 4 (8 * m + i) ≠ i ∧ D 5 (8 * m + i) ≤ 9 := by omega
      rw [nmX_lt (by omega), show (10 : Int32) = nI 10 from rfl, pk_sub (by omega)]
      refine x_send (D := D) (hb := hb) (It := It) (m := m) hR1 hm (hB.of hS1) hg1 (by omega) (by omega) hf2.2.1 (by omega) (fun σ2 hS2 hg2 => ?_)
      refine k σ2 (hS1.trans hS2) (hg2.congr (fun a b ha hb' => ?_))
      unfold grow gad
      by_cases ea : a = i
      · subst ea
        rw [if_pos rfl, G0_4 (by rw [hk1]; exact q3), e31, e32, e33, h0 b hb']
        unfold pt
        by_cases eb : b = tg (pfD D hb m) a (D 3 (8 * m + a)) <;> by_cases eb2 : b = tg (pfD D hb m) a (D 4 (8 * m + a)) <;> simp [eb, eb2] <;> (try (rw [← eb] at eb2)) <;> simp_all
      · simp [ea]
  · have q1 : D 1 (8 * m + i) = 5 := (nI_eq (b := 5) (by omega) (by decide)).mp q
    rw [hB.2.2.1, hB.2.1, x_bar hR hm (show i < 8 by omega), one_shl (by omega), mns_I, mns_I]
    refine ⟨hv, fun z7 ez => ?_⟩
    subst ez
    have p8 : 2 ^ D 0 0 ≤ 2 ^ 8 := Nat.pow_le_pow_right (by decide) hn
    have hF : 2 ^ D 0 0 - 1 < 2 ^ 8 := by have := Nat.two_pow_pos (D 0 0); omega
    have hset : mns (mns (2 ^ D 0 0 - 1) (2 ^ i)) (msk (fun b => bar D hb m i b) 8) < 256 := mns_lt (mns_lt hF _) _
    refine x_surestOf hR hW hm hset ?_
    have hbl : sst (fun a => D 6 (8 * m + a)) (fun a => (mns (mns (2 ^ D 0 0 - 1) (2 ^ i)) (msk (fun b => bar D hb m i b) 8)).testBit a) (D 0 0) = bld (pfD D hb m) i := by
      refine sst_congr (fun a ha => ?_)
      rw [mns_b (by have := mns_lt hF (2 ^ i); omega), mns_b (by omega), tb_full, tb_2, mskI _ a (by omega)]
      show (_ && _ && !bar D hb m i a) = (decide (a ≠ i) && !bar D hb m i a)
      by_cases z : a = i
      · subst z; simp
      · simp [ha, z, show ¬ i = a from fun w => z w.symm]
    rw [hbl]
    have hG : ∀ b, G0 (pfD D hb m) h i b = pt ((bld (pfD D hb m) i).getD i) 10 b := fun b => G0_5 (by rw [hk1]; exact q1) b
    cases hbe : bld (pfD D hb m) i with
    | none =>
      refine x_sendN (x := 10) hg (by omega) (by decide) (fun σ1 hS1 hg1 => k σ1 hS1 (hg1.congr (fun a b ha hb' => ?_)))
      unfold grow gad
      by_cases ea : a = i
      · subst ea
        rw [if_pos rfl, hG, hbe, h0 b hb']
        unfold pt
        simp
      · simp [ea]
    | some t =>
      obtain ⟨t1, t2⟩ := sst_ok hbe
      simp only [Bool.and_eq_true, decide_eq_true_eq, Bool.not_eq_true'] at t2
      have htg : tg (pfD D hb m) i t = t := by unfold tg; rw [t2.2]; rfl
      refine x_send (x := 10) (D := D) (hb := hb) (It := It) (m := m) hR hm hB hg (by omega) (by have : t < D 0 0 := t1; omega) t2.1 (by decide) (fun σ1 hS1 hg1 => k σ1 hS1 (hg1.congr (fun a b ha hb' => ?_)))
      rw [htg]
      unfold grow gad
      by_cases ea : a = i
      · subst ea
        rw [if_pos rfl, hG, hbe, h0 b hb']
        unfold pt
        by_cases eb : b = t <;> simp [eb]
      · simp [ea]
end WD
