-- what goes to whom, as it is asked
noncomputable def GX (D : hD) (hb : hB) (m w S : Nat) (gt : Option (Nat × Nat)) : Nat → Nat → Nat := GG (pfD D hb m) (D 0 6) (hL D m w S gt)
theorem GX_row {D : hD} (hW : hWF D) {hb : hB} {m w S : Nat} {gt : Option (Nat × Nat)} (hm : m < 3) (hg : gtW (D 0 0) gt) : rowT (D 0 0) (GX D hb m w S gt) := GG_row (P := pfD D hb m) (hL_W hW hm hg) (D 0 6)
def mxI (v : Nat → Int) : Nat → Int
  | 0 => 0
  | k + 1 => max (mxI v k) (v k)
theorem mxI_b {v : Nat → Int} {B : Int} (hB : 0 ≤ B) (h : ∀ a, v a ≤ B) : ∀ n, 0 ≤ mxI v n ∧ mxI v n ≤ B := by
  intro n
  induction n with
  | zero => exact ⟨Int.le_refl _, hB⟩
  | succ n ih =>
    have := h n
    show 0 ≤ max (mxI v n) (v n) ∧ max (mxI v n) (v n) ≤ B
    omega
/-- what is decided if S thinks so -/
def dcd (D : hD) (v : Nat → Int) (S : Nat) : Bool := decide ((D 0 4 : Int) * sumI v (D 0 0) < (D 0 5 : Int) * sumI (fun a => if S.testBit a = true then v a else 0) (D 0 0))
section RK
variable {l : Launch} {e : hv_Ev} {σ : hv_S} {D : hD} {hb : hB} {It : hT} {m w S : Nat} {gt : Option (Nat × Nat)} {n : Nat} {v : Nat → Int} {W : Int}
/-- behind lay and weigh -/
def rkI (D : hD) (hb : hB) (m w S : Nat) (gt : Option (Nat × Nat)) (σ σ' : hv_S) (W : Int) (v : Nat → Int) : Prop := XE σ σ' ∧ isV (D 0 0) (GX D hb m w S gt) (D 0 3) W v ∧ W ≤ 100000000 ∧ twI σ' (D 0 0) W v ∧ ∀ a b, a < 8 → b < 8 → σ'.1 19 (a * 8 + b) = nI (if a < D 0 0 then GX D hb m w S gt a b else 0)
theorem x_layWeigh {Φ : hv_S → Prop} (hR : RX D hb It σ) (hm : m < 3) (hW : hWF D) (hw : w ≤ 99) (hS : S < 256) (hg : gtW (D 0 0) gt) (k : ∀ σ' W v, rkI D hb m w S gt σ σ' W v → Φ σ') :
    hv_CV l (hv_e1 e) 4 m_X5_lay [.ref 18, .int (nI m), .int (nI w), .int (nI S), .int (gI1 gt), .int (gI2 gt)] σ (fun s1 => hv_CV l (hv_e1 e) 2 m_X6_weigh [.ref 21] s1 (fun s4 => Φ s4)) := by
  refine x_lay hR hm hW hw hS hg (fun σ1 hX1 hB1 hg1 => ?_)
  refine x_weigh (G := GX D hb m w S gt) (hR.of hX1) hW rfl (GX_row hW hm hg) hg1 (fun σ2 W v hX2 hk hv hW8 ht => k σ2 W v ⟨hX1.trans hX2, hv, hW8, ht, fun a b ha hb' => ?_⟩)
  rw [hk 19 (by decide)]
  exact hg1.1 a b ha hb'
theorem x_reckon {Φ : hv_S → Prop} (hR : RX D hb It σ) (hm : m < 3) (hW : hWF D) (hw : w ≤ 99) (hS : S < 256) (hg : gtW (D 0 0) gt) (k : ∀ σ' W v, rkI D hb m w S gt σ σ' W v → Φ σ') :
    hv_CV l (hv_e1 e) 5 m_X6_reckon [.ref 21, .int (nI m), .int (nI w), .int (nI S), .int (gI1 gt), .int (gI2 gt)] σ Φ := B_X6_reckon _ _ _ _ _ (x_layWeigh hR hm hW hw hS hg k)
theorem x_reckonNow {Φ : hv_S → Prop} (hR : RX D hb It σ) (hm : m < 3) (hW : hWF D) (k : ∀ σ' W v, rkI D hb m (D 0 1) 0 none σ σ' W v → Φ σ') :
    hv_CV l (hv_e1 e) 6 m_X6_reckonNow [.ref 21, .int (nI m)] σ Φ := by
  refine B_X6_reckonNow _ ?_
  rw [hR.1.2.1]
  exact x_reckon (gt := none) (S := 0) hR hm hW hW.2.1 (by decide) (fun p hp => absurd hp (by simp)) k
theorem x_sumOf {Φ : Int64 → hv_S → Prop} (h17 : σ.1 1 7 = nI n) (hn : n ≤ 8) (hw : ∀ a, a < 8 → σ.2.1 32 a = lZ (v a)) {S : Nat} (hS : S < 2 ^ 31) (k : Φ (lZ (sumI (fun a => if S.testBit a = true then v a else 0) n)) σ) :
    hv_CL l (hv_e1 e) 0 m_X6_sumOf [.ref 21, .int (nI S)] σ Φ := by
  refine B_X6_sumOf _ ?_
  suffices ∀ d i, i + d = n → L_X6_sumOf_5 l e Φ (nI S) (lZ (sumI (fun a => if S.testBit a = true then v a else 0) i)) (nI i) σ by exact this n 0 (by omega)
  intro d
  induction d with
  | zero =>
    intro i hi
    have hin : i = n := by omega
    subst hin
    exact B_X6_sumOf_5 _ _ _ ⟨fun _ => k, fun q => absurd (by rw [h17]; exact nI_le (Nat.le_refl _) (by omega)) q⟩
  | succ d ih =>
    intro i hi
    have e0 : sumI (fun a => if S.testBit a = true then v a else 0) (i + 1) = sumI (fun a => if S.testBit a = true then v a else 0) i + (if S.testBit i = true then v i else 0) := rfl
    refine B_X6_sumOf_5 _ _ _ ⟨fun q => absurd q (by rw [h17]; exact nI_ge (by omega) (by omega)), fun _ => ⟨fun q => ?_, fun q => ⟨vp_in_nI (by omega) (by decide), ?_⟩⟩⟩
    · have q1 := (bt_0 hS (by omega)).mp q
      have := ih (i + 1) (by omega)
      rw [e0, if_neg (by rw [q1]; decide), Int.add_zero] at this
      rw [nI_1]
      exact this
    · have q1 : S.testBit i = true := by
        cases c : S.testBit i with
        | true => rfl
        | false => exact absurd ((bt_0 hS (by omega)).mpr c) q
      have := ih (i + 1) (by omega)
      rw [e0, if_pos q1, ← lZ_add] at this
      rw [nI_1, nI_clamp (by omega), hw i (by omega)]
      exact this
theorem x_decides {Φ : Int32 → hv_S → Prop} (hR : RX D hb It σ) (hW : hWF D) {X Y : Int} (h7 : σ.2.1 21 7 = lZ X) (hX : 0 ≤ X ∧ X ≤ 6400000000) (hY : 0 ≤ Y ∧ Y ≤ 6400000000)
    (k0 : ¬ (D 0 4 : Int) * X < (D 0 5 : Int) * Y → Φ 0 σ) (k1 : (D 0 4 : Int) * X < (D 0 5 : Int) * Y → Φ 1 σ) : hv_CI l (hv_e1 e) 0 m_X6_decides [.ref 21, .long (lZ Y)] σ Φ := by
  have hrul := hR.2.2.1.2.2.1
  have hr : hv_isR (σ.2.2 15 3) := by
    rcases hR.2.2.1.1 with ⟨-, z⟩ | ⟨-, z⟩ <;> rw [z]
    · exact Or.inr rfl
    · exact Or.inl rfl
  have c1 : D 0 4 ≤ 999 := hW.2.2.2.2.1
  have c2 : D 0 5 ≤ 999 := hW.2.2.2.2.2.2.1
  have b1 := Int.mul_nonneg (show (0 : Int) ≤ (D 0 4 : Int) by omega) hX.1
  have b2 := Int.mul_nonneg (show (0 : Int) ≤ (D 0 5 : Int) by omega) hY.1
  have b3 : (D 0 4 : Int) * X ≤ 999 * X := Int.mul_le_mul_of_nonneg_right (by omega) hX.1
  have b4 : (D 0 5 : Int) * Y ≤ 999 * Y := Int.mul_le_mul_of_nonneg_right (by omega) hY.1
  refine B_X6_decides _ ⟨hr, hr, ?_⟩
  rw [hrul.2.2.1, hrul.2.1, h7, nI_lZ (by omega), nI_lZ (by omega), lZ_mul, lZ_mul, lZ_le (by omega) (by omega) (by omega) (by omega)]
  exact ⟨fun q => k0 (by omega), fun q => k1 (by omega)⟩
theorem x_withVoices {Φ : Int32 → hv_S → Prop} (h17 : σ.1 1 7 = nI n) (hn : n ≤ 8) (hw : ∀ a, a < 8 → σ.2.1 32 a = lZ (v a)) (hv : ∀ a, 0 ≤ v a ∧ v a ≤ 800000000) (k : Φ (nI (msk (fun a => decide (0 < v a)) n)) σ) :
    hv_CI l (hv_e1 e) 0 m_X6_withVoices [.ref 21] σ Φ := by
  refine B_X6_withVoices ?_
  suffices ∀ d i, i + d = n → L_X6_withVoices_4 l e Φ (nI (msk (fun a => decide (0 < v a)) i)) (nI i) σ by exact this n 0 (by omega)
  intro d
  induction d with
  | zero =>
    intro i hi
    have hin : i = n := by omega
    subst hin
    exact B_X6_withVoices_4 _ _ ⟨fun _ => k, fun q => absurd (by rw [h17]; exact nI_le (Nat.le_refl _) (by omega)) q⟩
  | succ d ih =>
    intro i hi
    have := hv i
    have h0 : (0 : Int64) = lZ 0 := rfl
    have h1 : lZ (v i) ≤ 0 ↔ v i ≤ 0 := by rw [h0]; exact lZ_le (by omega) (by omega) (by omega) (by omega)
    refine B_X6_withVoices_4 _ _ ⟨fun q => absurd q (by rw [h17]; exact nI_ge (by omega) (by omega)), fun _ => ⟨vp_in_nI (by omega) (by decide), ?_⟩⟩
    rw [nI_clamp (by omega), hw i (by omega), h1, nI_1, one_shl (by omega), tI_or]
    refine ⟨fun q => ?_, fun q => ?_⟩
    · rw [← msk_step (p := fun a => decide (0 < v a)) (i := i) (by simp; omega)]
      exact ih (i + 1) (by omega)
    · rw [msk_stepT (p := fun a => decide (0 < v a)) (i := i) (by simp; omega)]
      exact ih (i + 1) (by omega)
theorem x_highest {Φ : Int64 → hv_S → Prop} (h17 : σ.1 1 7 = nI n) (hn : n ≤ 8) (hw : ∀ a, a < 8 → σ.2.1 32 a = lZ (v a)) (hv : ∀ a, 0 ≤ v a ∧ v a ≤ 800000000) (k : Φ (lZ (mxI v n)) σ) :
    hv_CL l (hv_e1 e) 1 m_X6_highest [.ref 21] σ Φ := by
  refine B_X6_highest ?_
  suffices ∀ d i, i + d = n → L_X6_highest_4 l e Φ (lZ (mxI v i)) (nI i) σ by exact this n 0 (by omega)
  intro d
  induction d with
  | zero =>
    intro i hi
    have hin : i = n := by omega
    subst hin
    exact B_X6_highest_4 _ _ ⟨fun _ => k, fun q => absurd (by rw [h17]; exact nI_le (Nat.le_refl _) (by omega)) q⟩
  | succ d ih =>
    intro i hi
    have := hv i
    have hb := mxI_b (v := v) (B := 800000000) (by omega) (fun a => (hv a).2) i
    have h1 : lZ (v i) < lZ (mxI v i) ↔ v i < mxI v i := lZ_lt (by omega) (by omega) (by omega) (by omega)
    refine B_X6_highest_4 _ _ ⟨fun q => absurd q (by rw [h17]; exact nI_ge (by omega) (by omega)), fun _ => ⟨vp_in_nI (by omega) (by decide), fun z1 hz => ?_⟩⟩
    rw [nI_clamp (by omega), hw i (by omega)] at hz
    have hz2 : z1 = lZ (mxI v (i + 1)) := by
      rw [hz]
      show _ = lZ (max (mxI v i) (v i))
      by_cases q : v i < mxI v i
      · rw [if_pos (h1.mpr q), Int.max_eq_left (by omega)]
      · rw [if_neg (fun q2 => q (h1.mp q2)), Int.max_eq_right (by omega)]
    rw [hz2, nI_1]
    exact ih (i + 1) (by omega)
end RK
