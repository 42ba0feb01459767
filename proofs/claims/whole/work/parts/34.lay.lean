-- what lies in the spread: a matrix of tenths g; rows of Bd are under way
def gad (g : Nat → Nat → Nat) (i t x : Nat) : Nat → Nat → Nat := fun a b => if a = i ∧ b = t then g a b + x else g a b
def spG (σ : hv_S) (g : Nat → Nat → Nat) (Bd : Nat) : Prop := (∀ a b, a < 8 → b < 8 → σ.1 19 (a * 8 + b) = nI (g a b)) ∧ σ.1 18 4 = nI (msk (fun a => decide (0 < g a a)) 8) ∧ ∀ a, a < 8 → Bd.testBit a = false → σ.1 20 a = nI (msk (fun b => decide (b ≠ a ∧ 0 < g a b)) 8)
def spB (σ : hv_S) (n m O : Nat) : Prop := σ.1 18 8 = nI (8 * m) ∧ σ.1 18 7 = nI m ∧ σ.1 18 6 = nI (2 ^ n - 1) ∧ σ.1 18 5 = nI O
/-- but for tenths, onward, speaking all is as it was -/
def SE (σ σ' : hv_S) : Prop := XE σ σ' ∧ (∀ j, 5 ≤ j ∧ j ≤ 8 → σ'.1 18 j = σ.1 18 j) ∧ (∀ k, 20 < k → ∀ j, σ'.1 k j = σ.1 k j) ∧ σ'.2 = σ.2
theorem SE.refl (σ : hv_S) : SE σ σ := ⟨XE.refl σ, fun _ _ => rfl, fun _ _ _ => rfl, rfl⟩
theorem SE.trans {σ σ' σ'' : hv_S} (h : SE σ σ') (h2 : SE σ' σ'') : SE σ σ'' := ⟨h.1.trans h2.1, fun j hj => (h2.2.1 j hj).trans (h.2.1 j hj), fun k hk j => (h2.2.2.1 k hk j).trans (h.2.2.1 k hk j), h2.2.2.2.trans h.2.2.2⟩
theorem spB.of {σ σ' : hv_S} {n m O : Nat} (h : spB σ n m O) (e : SE σ σ') : spB σ' n m O := ⟨by rw [e.2.1 8 (by decide)]; exact h.1, by rw [e.2.1 7 (by decide)]; exact h.2.1, by rw [e.2.1 6 (by decide)]; exact h.2.2.1, by rw [e.2.1 5 (by decide)]; exact h.2.2.2⟩
theorem ui_1 (σ : hv_S) (k j : Nat) (v : Int32) (k' j' : Nat) : (hv_ui σ k j v).1 k' j' = if k' = k ∧ j' = j then v else σ.1 k' j' := rfl
theorem msk8 (p : Nat → Bool) : msk p 8 < 2 ^ 8 := msk_lt p 8
theorem mskI (p : Nat → Bool) (i : Nat) (h : i < 8) : (msk p 8).testBit i = p i := by rw [msk_bit]; simp [h]
section LA
variable {l : Launch} {e : hv_Ev} {σ : hv_S} {D : hD} {hb : hB} {It : hT} {m : Nat} {g : Nat → Nat → Nat} {Bd : Nat}
theorem x_stay {Φ : hv_S → Prop} {i x : Nat} (hg : spG σ g Bd) (hi : i < 8) (hx : 0 < x) (k : ∀ σ', SE σ σ' → spG σ' (gad g i i x) Bd → Φ σ') : hv_CV l (hv_e1 e) 0 m_X5_stay [.ref 18, .int (nI i), .int (nI x)] σ Φ := by
  refine B_X5_stay _ _ ?_
  have e1 : nI i * 8 + nI i = nI (i * 8 + i) := by simp only [lI, pk_mul, nI_add]
  rw [e1, nI_clamp (by omega)]
  have hv : vp_in (nI (i * 8 + i)) 64 := vp_in_nI (by omega) (by decide)
  refine ⟨hv, hv, k _ ⟨(XE.ui (by decide)).trans (XE.ui (by decide)), fun j hj => ?_, fun k' hk j => ?_, rfl⟩ ⟨fun a b ha hb => ?_, ?_, fun a ha hq => ?_⟩⟩
  · simp [ui_1, show j ≠ 4 by omega]
  · simp [ui_1, show k' ≠ 18 by omega, show k' ≠ 19 by omega]
  · simp only [ui_1, show ¬ (19 = 18) by decide, false_and, if_false, true_and]
    by_cases q : a * 8 + b = i * 8 + i
    · have : a = i ∧ b = i := by omega
      rw [if_pos q, this.1, this.2, hg.1 i i hi hi, nI_add]
      simp [gad]
    · rw [if_neg q, hg.1 a b ha hb]
      have : ¬ (a = i ∧ b = i) := by omega
      simp [gad, this]
  · simp only [ui_1, true_and, if_true]
    rw [hg.2.1, one_shl (by omega), tI_or]
    refine congrArg nI (tb_ext (n := 8) (lt_or2 (msk8 _) hi) (msk8 _) (fun j hj => ?_))
    rw [tb_or2, mskI _ j hj, mskI _ j hj]
    by_cases q : j = i
    · subst q; simp [gad]; omega
    · simp [gad, q, show ¬ i = j from fun z => q z.symm]
  · simp only [ui_1, show ¬ (20 = 18) by decide, show ¬ (20 = 19) by decide, false_and, if_false]
    rw [hg.2.2 a ha hq]
    refine congrArg nI (msk_ext (fun b hb => ?_))
    by_cases q : a = i
    · subst q
      by_cases q2 : b = a
      · simp [q2]
      · simp [gad, q2]
    · simp [gad, q]
theorem x_bar (h : RX D hb It σ) (hm : m < 3) {a : Nat} (ha : a < 8) : σ.1 16 (8 * m + a) = nI (msk (fun b => bar D hb m a b) 8) := h.2.2.1.2.2.2 m a hm ha
theorem x_send {Φ : hv_S → Prop} {i t x n O : Nat} (hR : RX D hb It σ) (hm : m < 3) (hB : spB σ n m O) (hg : spG σ g Bd) (hi : i < 8) (ht : t < 8) (hne : t ≠ i) (hx : 0 < x)
    (k : ∀ σ', SE σ σ' → spG σ' (gad g i (tg (pfD D hb m) i t) x) Bd → Φ σ') : hv_CV l (hv_e1 e) 1 m_X5_send [.ref 18, .int (nI i), .int (nI t), .int (nI x)] σ Φ := by
  refine B_X5_send _ _ _ ⟨fun q => absurd q (nI_pos (by omega)), fun _ => ⟨fun q => absurd q (nI_ge (a := t) (b := 8) (by omega) (by omega)), fun _ => ?_⟩⟩
  have e0 : σ.1 18 8 + nI i = nI (8 * m + i) := by rw [hB.1, nI_add]
  rw [e0, nI_clamp (by omega)]
  refine ⟨vp_in_nI (by omega) (by decide), ?_⟩
  rw [x_bar hR hm hi]
  have h31 : msk (fun b => bar D hb m i b) 8 < 2 ^ 31 := Nat.lt_trans (msk8 _) (by decide)
  have hbit := mskI (fun b => bar D hb m i b) t ht
  refine ⟨fun q => ?_, fun q => ?_⟩
  · have q1 : bar D hb m i t = false := by rw [← hbit]; exact (bt_0 h31 (by omega)).mp q
    have htg : tg (pfD D hb m) i t = t := by unfold tg; rw [show (pfD D hb m).2.2 i t = bar D hb m i t from rfl, q1]; rfl
    rw [htg] at k
    have e1 : nI i * 8 + nI t = nI (i * 8 + t) := by simp only [lI, pk_mul, nI_add]
    rw [e1, nI_clamp (by omega), nI_clamp (by omega)]
    have hv : vp_in (nI (i * 8 + t)) 64 := vp_in_nI (by omega) (by decide)
    have hv8 : vp_in (nI i) 8 := vp_in_nI hi (by decide)
    refine ⟨hv, hv, hv8, hv8, k _ ⟨(XE.ui (by decide)).trans (XE.ui (by decide)), fun j hj => ?_, fun k' hk j => ?_, rfl⟩ ⟨fun a b ha hb => ?_, ?_, fun a ha hq => ?_⟩⟩
    · simp [ui_1]
    · simp [ui_1, show k' ≠ 20 by omega, show k' ≠ 19 by omega]
    · simp only [ui_1, show ¬ (19 = 20) by decide, false_and, if_false, true_and]
      by_cases q : a * 8 + b = i * 8 + t
      · have : a = i ∧ b = t := by omega
        rw [if_pos q, this.1, this.2, hg.1 i t hi ht, nI_add]
        simp [gad]
      · rw [if_neg q, hg.1 a b ha hb]
        have : ¬ (a = i ∧ b = t) := by omega
        simp [gad, this]
    · simp only [ui_1, show ¬ (18 = 20) by decide, show ¬ (18 = 19) by decide, false_and, if_false]
      rw [hg.2.1]
      refine congrArg nI (msk_ext (fun a ha => ?_))
      by_cases q : a = i
      · subst q; simp [gad, hne.symm]
      · simp [gad, q]
    · simp only [ui_1, show ¬ (20 = 19) by decide, false_and, if_false, true_and]
      by_cases q : a = i
      · subst q
        rw [if_pos rfl, hg.2.2 a ha hq, one_shl (by omega), tI_or]
        refine congrArg nI (tb_ext (n := 8) (lt_or2 (msk8 _) ht) (msk8 _) (fun j hj => ?_))
        rw [tb_or2, mskI _ j hj, mskI _ j hj]
        by_cases q2 : j = t
        · subst q2; simp [gad, hne]; omega
        · simp [gad, q2, show ¬ t = j from fun z => q2 z.symm]
      · rw [if_neg q, hg.2.2 a ha hq]
        refine congrArg nI (msk_ext (fun b hb => ?_))
        simp [gad, q]
  · have q1 : bar D hb m i t = true := by
      cases z : bar D hb m i t with
      | true => rfl
      | false => exact absurd ((bt_0 h31 (by omega)).mpr (by rw [hbit]; exact z)) q
    have htg : tg (pfD D hb m) i t = i := by unfold tg; rw [show (pfD D hb m).2.2 i t = bar D hb m i t from rfl, q1]; rfl
    rw [htg] at k
    exact x_stay hg hi hx k
theorem x_sendN {Φ : hv_S → Prop} {i x : Nat} (hg : spG σ g Bd) (hi : i < 8) (hx : 0 < x) (k : ∀ σ', SE σ σ' → spG σ' (gad g i i x) Bd → Φ σ') : hv_CV l (hv_e1 e) 1 m_X5_send [.ref 18, .int (nI i), .int (-5), .int (nI x)] σ Φ :=
  B_X5_send _ _ _ ⟨fun _ => x_stay hg hi hx k, fun q => absurd (by decide) q⟩
end LA
