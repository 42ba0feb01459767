-- WISHES, one after another
noncomputable def chC (D : hD) (hb : hB) (m S : Nat) (gt : Option (Nat × Nat)) : Int := cha D m (cnV D hb m (D 0 1) S gt).2
def oR (o : Option Nat) : Int32 := match o with
  | none => -5
  | some k => nI k
noncomputable def wsJ (D : hD) (hb : hB) (m : Nat) (B : Int) (i : Nat) : Nat → Nat → Option Nat
  | 0, _ => none
  | d + 1, j => if j ≠ i ∧ bar D hb m i j = false ∧ B < chC D hb m 0 (some (i, j)) then some (10 * i + j + 1) else wsJ D hb m B i d (j + 1)
noncomputable def wsI (D : hD) (hb : hB) (m : Nat) (B : Int) : Nat → Nat → Option Nat
  | 0, _ => none
  | d + 1, i => if B < chC D hb m (2 ^ i) none then some (10 * i) else (wsJ D hb m B i (D 0 0) 0).or (wsI D hb m B d (i + 1))
noncomputable def wish (D : hD) (hb : hB) (m : Nat) : Option Nat := wsI D hb m (chC D hb m 0 none) (D 0 0) 0
section WI
variable {l : Launch} {e : hv_Ev} {σ : hv_S} {D : hD} {hb : hB} {It : hT} {m w S : Nat} {gt : Option (Nat × Nat)}
theorem rk_b {σ' : hv_S} {W : Int} {v : Nat → Int} (h : rkI D hb m w S gt σ σ' W v) (a : Nat) : 0 ≤ v a ∧ v a ≤ 800000000 := by
  have := isV_nn h.2.1 a
  have := h.2.2.1
  omega
theorem rk_c (hW : hWF D) (hm : m < 3) (hg : gtW (D 0 0) gt) {σ' : hv_S} {W : Int} {v : Nat → Int} (h : rkI D hb m w S gt σ σ' W v) : prp W v (cnV D hb m w S gt).1 (cnV D hb m w S gt).2 := (cnV_of hW hm hg h.2.1).2
theorem chC_b (hW : hWF D) (hm : m < 3) : 0 ≤ chC D hb m S gt ∧ chC D hb m S gt ≤ 100000000 := cha_b hW hm _
theorem gtW0 {n : Nat} : gtW n none := fun p hp => absurd hp (by simp)
theorem gtW2 {n a b : Nat} (ha : a < n) (hb' : b < n) (h : a ≠ b) : gtW n (some (a, b)) := fun p hp => by
  have : (a, b) = p := Option.some.inj hp
  rw [← this]; exact ⟨ha, hb', h⟩
theorem x_chanceIf {Φ : Int64 → hv_S → Prop} (hR : RX D hb It σ) (hm : m < 3) (hW : hWF D) (hS : S < 256) (hg : gtW (D 0 0) gt) (k : ∀ σ', XE σ σ' → Φ (lZ (chC D hb m S gt)) σ') :
    hv_CL l (hv_e1 e) 5 m_X6_chanceIf [.ref 21, .int (nI m), .int (nI S), .int (gI1 gt), .int (gI2 gt)] σ Φ := by
  refine B_X6_chanceIf _ _ _ _ ?_
  rw [hR.1.2.1]
  refine x_layWeigh hR hm hW hW.2.1 hS hg (fun σ1 W v h1 => ?_)
  refine x_chance (hR.of h1.1) hm hW h1.2.2.2.1.2.1 h1.2.2.2.1.2.2 (rk_b h1) (fun σ2 hT2 _ _ => ?_)
  have e1 : cha D m v = chC D hb m S gt := cha_inv (rk_c hW hm hg h1)
  have := k σ2 (h1.1.trans hT2.1)
  rw [← e1] at this
  exact this
theorem x_bars {Φ : Int32 → hv_S → Prop} (hR : RX D hb It σ) (hm : m < 3) {a b : Nat} (ha : a < 8) (hb8 : b < 8) (k0 : bar D hb m a b = false → Φ 0 σ) (k1 : bar D hb m a b = true → Φ 1 σ) :
    hv_CI l (hv_e1 e) 1 m_X3_bars [.ref 15, .int (nI a), .int (nI b), .int (nI m)] σ Φ := by
  have hc : 8 * m + a < 24 := by omega
  have ec : nI m * 8 + nI a = nI (8 * m + a) := by simp only [lI, pk_mul, nI_add]; rw [Nat.mul_comm]
  refine B_X3_bars _ _ _ (B_X9_cell _ _ ?_)
  have hM : msk (fun b => bar D hb m a b) 8 < 2 ^ 8 := msk_lt _ _
  have hM2 : msk (fun b => bar D hb m a b) 8 < 2 ^ 31 := Nat.lt_of_lt_of_le hM (by decide)
  rw [ec, nI_clamp (by omega), hR.2.2.1.2.2.2 m a hm ha, bt_0 hM2 (by omega), msk_bit]
  refine ⟨vp_in_nI hc (by decide), fun q => k0 ?_, fun q => k1 ?_⟩
  · simpa [hb8] using q
  · simpa [hb8] using q
theorem x_firstWish {Φ : Int32 → hv_S → Prop} (hR : RX D hb It σ) (hm : m < 3) (hW : hWF D) (k : ∀ σ', XE σ σ' → Φ (oR (wish D hb m)) σ') :
    hv_CI l (hv_e1 e) 6 m_X8_firstWish [.ref 35, .int (nI m)] σ Φ := by
  have hn := hW.1
  refine B_X8_firstWish _ (x_chanceIf (S := 0) (gt := none) hR hm hW (by decide) gtW0 (fun σ1 hX1 => ?_))
  obtain ⟨B, hB⟩ : ∃ B, B = chC D hb m 0 none := ⟨_, rfl⟩
  have hBb : 0 ≤ B ∧ B ≤ 100000000 := by rw [hB]; exact chC_b hW hm
  have hlt : ∀ S gt, ¬ lZ (chC D hb m S gt) ≤ lZ B ↔ B < chC D hb m S gt := fun S gt => by
    have := chC_b (S := S) (gt := gt) (hb := hb) hW hm
    rw [lZ_le (by omega) (by omega) (by omega) (by omega)]; omega
  rw [← hB]
  suffices ∀ d i σ2, i + d = D 0 0 → XE σ σ2 → (∀ σ', XE σ σ' → Φ (oR (wsI D hb m B d i)) σ') → L_X8_firstWish_15 l e Φ (nI m) (lZ B) (nI i) σ2 by
    exact this (D 0 0) 0 σ1 (by omega) hX1 (fun σ' hX' => by have := k σ' hX'; unfold wish at this; rw [← hB] at this; exact this)
  intro d
  induction d with
  | zero =>
    intro i σ2 hi hX2 hk
    have hin : i = D 0 0 := by omega
    subst hin
    exact B_X8_firstWish_15 _ _ _ ⟨fun _ => hk σ2 hX2, fun q => absurd (by rw [(hR.of hX2).1.1]; exact nI_le (Nat.le_refl _) (by omega)) q⟩
  | succ d ih =>
    intro i σ2 hi hX2 hk
    have hR2 := hR.of hX2
    have hp2 : 2 ^ i < 256 := Nat.lt_of_lt_of_le (Nat.pow_lt_pow_right (by decide) (show i < 8 by omega)) (by decide)
    refine B_X8_firstWish_15 _ _ _ ⟨fun q => absurd q (by rw [hR2.1.1]; exact nI_ge (by omega) (by omega)), fun _ => ?_⟩
    rw [one_shl (by omega)]
    refine x_chanceIf (S := 2 ^ i) (gt := none) hR2 hm hW hp2 gtW0 (fun σ3 hX3 => ?_)
    have eW : wsI D hb m B (d + 1) i = if B < chC D hb m (2 ^ i) none then some (10 * i) else (wsJ D hb m B i (D 0 0) 0).or (wsI D hb m B d (i + 1)) := rfl
    rw [eW] at hk
    refine ⟨fun q => ?_, fun q => ?_⟩
    · rw [if_neg (fun c => (hlt _ _).mpr c q)] at hk
      suffices ∀ f j σ4, j + f = D 0 0 → XE σ σ4 → (∀ σ', XE σ σ' → Φ (oR ((wsJ D hb m B i f j).or (wsI D hb m B d (i + 1)))) σ') → L_X8_firstWish_55 l e Φ (nI m) (lZ B) (nI i) (nI j) σ4 by
        exact this (D 0 0) 0 σ3 (by omega) (hX2.trans hX3) hk
      intro f
      induction f with
      | zero =>
        intro j σ4 hj hX4 hk4
        have hjn : j = D 0 0 := by omega
        subst hjn
        refine B_X8_firstWish_55 _ _ _ _ ⟨fun _ => ?_, fun q => absurd (by rw [(hR.of hX4).1.1]; exact nI_le (Nat.le_refl _) (by omega)) q⟩
        rw [nI_1]
        exact ih (i + 1) σ4 (by omega) hX4 hk4
      | succ f ihf =>
        intro j σ4 hj hX4 hk4
        have hR4 := hR.of hX4
        have eJ : wsJ D hb m B i (f + 1) j = if j ≠ i ∧ bar D hb m i j = false ∧ B < chC D hb m 0 (some (i, j)) then some (10 * i + j + 1) else wsJ D hb m B i f (j + 1) := rfl
        rw [eJ] at hk4
        refine B_X8_firstWish_55 _ _ _ _ ⟨fun q => absurd q (by rw [hR4.1.1]; exact nI_ge (by omega) (by omega)), fun _ => ?_⟩
        rw [nI_1]
        refine ⟨fun q2 => ?_, fun q2 => ?_⟩
        · have eji := (nI_eq (by omega) (by omega)).mp q2
          rw [if_neg (fun c => c.1 eji)] at hk4
          exact ihf (j + 1) σ4 (by omega) hX4 hk4
        · have nji : j ≠ i := fun c => q2 (by rw [c])
          refine x_bars hR4 hm (by omega) (by omega) (fun c => ⟨fun q3 => absurd rfl q3, fun _ => ?_⟩) (fun c => ⟨fun _ => ?_, fun q3 => absurd q3 (by decide)⟩)
          · refine x_chanceIf (S := 0) (gt := some (i, j)) hR4 hm hW (by decide) (gtW2 (by omega) (by omega) (fun c2 => nji c2.symm)) (fun σ5 hX5 => ⟨fun q4 => ?_, fun q4 => ?_⟩)
            · rw [if_neg (fun c2 => (hlt _ _).mpr c2.2.2 q4)] at hk4
              exact ihf (j + 1) σ5 (by omega) (hX4.trans hX5) hk4
            · rw [if_pos ⟨nji, c, (hlt _ _).mp q4⟩] at hk4
              have e2 : (10 : Int32) * nI i + nI j + 1 = nI (10 * i + j + 1) := by rw [show (10 : Int32) = nI 10 from rfl, pk_mul, nI_add, nI_1]
              rw [e2]
              exact hk4 σ5 (hX4.trans hX5)
          · rw [if_neg (fun c2 => by rw [c] at c2; exact absurd c2.2.1 (by decide))] at hk4
            exact ihf (j + 1) σ4 (by omega) hX4 hk4
    · rw [if_pos ((hlt _ _).mp q)] at hk
      have e2 : (10 : Int32) * nI i = nI (10 * i) := by rw [show (10 : Int32) = nI 10 from rfl, pk_mul]
      rw [e2]
      exact hk σ3 (hX2.trans hX3)
end WI
