-- WISHES over sets
def yeM (D : hD) (m : Nat) : Nat := msk (fun i => D 7 (8 * m + i) == 1) 8
def bI (b : Bool) : Int32 := if b = true then 1 else 0
noncomputable def dcC (D : hD) (hb : hB) (m w S Y : Nat) : Bool := dcd D (cnV D hb m w S none).2 Y
def mov (D : hD) (m w a : Nat) : Bool := decide (w < D 2 (8 * m + a) ∧ 2 ≤ D 1 (8 * m + a))
/-- the heap is within h -/
noncomputable def hpC (D : hD) (hb : hB) (m S h : Nat) : Bool := decide (mxI (cnV D hb m (D 0 1) S none).2 (D 0 0) ≤ (h : Int) * (cnV D hb m (D 0 1) S none).1)
noncomputable def fwS (D : hD) (hb : hB) (m A : Nat) : Nat → Nat → Option Nat → Nat → Option Nat
  | 0, _, f, _ => f
  | d + 1, s, f, z => if mns s A = 0 ∧ pop 8 s < z ∧ dcC D hb m (D 0 1) s (yeM D m ||| s) = true then fwS D hb m A d (s + 1) (some s) (pop 8 s) else fwS D hb m A d (s + 1) f z
noncomputable def fewS (D : hD) (hb : hB) (m : Nat) : Option Nat := fwS D hb m (mns (2 ^ D 0 0 - 1) (yeM D m)) (mns (2 ^ D 0 0 - 1) (yeM D m) + 1) 0 none 9
noncomputable def meS (D : hD) (hb : hB) (m h n A : Nat) : Nat → Nat → Option Nat → Nat → Int → Option Nat
  | 0, _, f, _, _ => f
  | d + 1, s, f, z, g => if mns s A = 0 ∧ pop 8 s ≤ n ∧ hpC D hb m s h = true ∧ (g < chC D hb m s none ∨ chC D hb m s none = g ∧ pop 8 s < z) then meS D hb m h n A d (s + 1) (some s) (pop 8 s) (chC D hb m s none) else meS D hb m h n A d (s + 1) f z g
noncomputable def mend (D : hD) (hb : hB) (m h n : Nat) : Option Nat := meS D hb m h n (msk (mov D m (D 0 1)) (D 0 0)) (msk (mov D m (D 0 1)) (D 0 0) + 1) 0 none 0 (-1)
section SE
variable {l : Launch} {e : hv_Ev} {σ : hv_S} {D : hD} {hb : hB} {It : hT} {m w S : Nat} {gt : Option (Nat × Nat)}
theorem yeM_lt (D : hD) (m : Nat) : yeM D m < 256 := msk_lt _ 8
theorem rk_sum (hn : D 0 0 ≤ 8) {σ' : hv_S} {W : Int} {v : Nat → Int} (h : rkI D hb m w S gt σ σ' W v) : 0 ≤ sumI v (D 0 0) ∧ sumI v (D 0 0) ≤ 6400000000 := by
  have := sumI_v (n := D 0 0) (v := v) (B := 800000000) (fun a _ => rk_b h a)
  omega
theorem rk_ysm (hn : D 0 0 ≤ 8) {σ' : hv_S} {W : Int} {v : Nat → Int} (h : rkI D hb m w S gt σ σ' W v) (Y : Nat) : 0 ≤ ysm v Y (D 0 0) ∧ ysm v Y (D 0 0) ≤ 6400000000 := by
  have := sumI_v (n := D 0 0) (v := fun a => if Y.testBit a = true then v a else 0) (B := 800000000) (fun a _ => by
    have := rk_b h a
    show 0 ≤ (if _ then v a else 0) ∧ (if _ then v a else 0) ≤ 800000000
    split <;> omega)
  show 0 ≤ sumI (fun a => if Y.testBit a = true then v a else 0) (D 0 0) ∧ sumI (fun a => if Y.testBit a = true then v a else 0) (D 0 0) ≤ 6400000000
  omega
/-- is it decided, if Y think so: behind reckon -/
theorem x_says {Φ : Int32 → hv_S → Prop} {σ' : hv_S} {W : Int} {v : Nat → Int} (hR : RX D hb It σ) (hW : hWF D) (h : rkI D hb m w S gt σ σ' W v) {Y : Nat} (hY : Y < 2 ^ 31) (k : Φ (bI (dcd D v Y)) σ') :
    hv_CL l (hv_e1 e) 0 m_X6_sumOf [.ref 21, .int (nI Y)] σ' (fun v8 s7 => hv_CI l (hv_e1 e) 0 m_X6_decides [.ref 21, .long v8] s7 (fun v11 s10 => Φ v11 s10)) := by
  have hR' := hR.of h.1
  refine x_sumOf (v := v) hR'.1.1 hW.1 h.2.2.2.1.2.2 hY ?_
  have hd : dcd D v Y = true ↔ (D 0 4 : Int) * sumI v (D 0 0) < (D 0 5 : Int) * ysm v Y (D 0 0) := by unfold dcd ysm; exact decide_eq_true_iff
  refine x_decides (X := sumI v (D 0 0)) (Y := ysm v Y (D 0 0)) hR' hW h.2.2.2.1.2.1 (rk_sum hW.1 h) (rk_ysm hW.1 h Y) (fun c => ?_) (fun c => ?_)
  · have : dcd D v Y = false := by
      cases q : dcd D v Y with
      | false => rfl
      | true => exact absurd (hd.mp q) c
    rw [this] at k
    exact k
  · rw [hd.mpr c] at k
    exact k
theorem x_decidedAt {Φ : Int32 → hv_S → Prop} (hR : RX D hb It σ) (hm : m < 3) (hW : hWF D) (hw : w ≤ 99) (k : ∀ σ', XE σ σ' → Φ (bI (dcC D hb m w 0 (yeM D m))) σ') :
    hv_CI l (hv_e1 e) 5 m_X8_decidedAt [.ref 35, .int (nI m), .int (nI w)] σ Φ := by
  refine B_X8_decidedAt _ _ (x_layWeigh (S := 0) (gt := none) hR hm hW hw (by decide) gtW0 (fun σ1 W v h1 => ?_))
  have hR1 := hR.of h1.1
  have hy := yeM_lt D m
  rw [nI_clamp (by omega), hR1.1.2.2.1 m hm]
  refine ⟨vp_in_nI hm (by decide), x_says (Y := yeM D m) hR hW h1 (by omega) ⟨?_, ?_⟩⟩
  · unfold bI; split
    · exact Or.inr rfl
    · exact Or.inl rfl
  · rw [dcd_inv (rk_c hW hm gtW0 h1)]
    exact k σ1 h1.1
theorem x_movers {Φ : Int32 → hv_S → Prop} (hR : RX D hb It σ) (hm : m < 3) (hW : hWF D) (k : Φ (nI (msk (mov D m (D 0 1)) (D 0 0))) σ) :
    hv_CI l (hv_e1 e) 1 m_X8_movers [.ref 35, .int (nI m)] σ Φ := by
  have hn := hW.1
  refine B_X8_movers _ ?_
  suffices ∀ d i, i + d = D 0 0 → L_X8_movers_4 l e Φ (nI m) (nI (msk (mov D m (D 0 1)) i)) (nI i) σ by exact this (D 0 0) 0 (by omega)
  intro d
  induction d with
  | zero =>
    intro i hi
    have hin : i = D 0 0 := by omega
    subst hin
    exact B_X8_movers_4 _ _ _ ⟨fun _ => k, fun q => absurd (by rw [hR.1.1]; exact nI_le (Nat.le_refl _) (by omega)) q⟩
  | succ d ih =>
    intro i hi
    have hc : 8 * m + i < 24 := by omega
    have ec : nI m * 8 + nI i = nI (8 * m + i) := by simp only [lI, pk_mul, nI_add]; rw [Nat.mul_comm]
    have hw : D 0 1 ≤ 99 := hW.2.1
    refine B_X8_movers_4 _ _ _ ⟨fun q => absurd q (by rw [hR.1.1]; exact nI_ge (by omega) (by omega)), fun _ => B_X9_cell _ _ ?_⟩
    rw [ec, hR.1.2.1, nI_1, one_shl (by omega), tI_or]
    refine x_isSelf hR hW hc (by omega) (fun c => ⟨fun q => absurd rfl q, fun _ => ?_⟩) (fun c => ⟨fun _ => ?_, fun q => absurd q (by decide)⟩)
    · rw [msk_stepT (p := mov D m (D 0 1)) (i := i) (decide_eq_true c)]
      exact ih (i + 1) (by omega)
    · rw [← msk_step (p := mov D m (D 0 1)) (i := i) (decide_eq_false c)]
      exact ih (i + 1) (by omega)
theorem x_fewestToWin {Φ : Int32 → hv_S → Prop} (hR : RX D hb It σ) (hm : m < 3) (hW : hWF D) (k : ∀ σ', XE σ σ' → Φ (oR (fewS D hb m)) σ') :
    hv_CI l (hv_e1 e) 6 m_X8_fewestToWin [.ref 35, .int (nI m)] σ Φ := by
  have hn := hW.1
  have hy := yeM_lt D m
  have hone : ((1 : Int32) <<< (σ.1 1 7 &&& 31)) - 1 = nI (2 ^ D 0 0 - 1) := by
    rw [hR.1.1, one_shl (by omega), show (1 : Int32) = nI 1 from rfl, pk_sub (Nat.two_pow_pos _)]
  have p8 : 2 ^ D 0 0 ≤ 2 ^ 8 := Nat.pow_le_pow_right (by decide) hn
  have hAl : mns (2 ^ D 0 0 - 1) (yeM D m) < 256 := mns_lt (n := 8) (by omega) _
  refine B_X8_fewestToWin _ ⟨vp_in_nI hm (by decide), fun z1 hz => ?_⟩
  rw [nI_clamp (by omega), hone, hR.1.2.2.1 m hm] at hz
  rw [nI_clamp (by omega), hR.1.2.2.1 m hm]
  have hz2 : z1 = nI (mns (2 ^ D 0 0 - 1) (yeM D m)) := by rw [hz]; exact mns_I _ _
  rw [hz2]
  unfold fewS at k
  generalize mns (2 ^ D 0 0 - 1) (yeM D m) = A at *
  show L_X8_fewestToWin_38 l e Φ (nI m) (-5) 9 (nI (yeM D m)) (nI A) 0 σ
  suffices ∀ d s f z σ2, s + d = A + 1 → z ≤ 9 → XE σ σ2 → (∀ σ', XE σ σ' → Φ (oR (fwS D hb m A d s f z)) σ') → L_X8_fewestToWin_38 l e Φ (nI m) (oR f) (nI z) (nI (yeM D m)) (nI A) (nI s) σ2 by
    exact this (A + 1) 0 none 9 σ (by omega) (by omega) (XE.refl σ) k
  intro d
  induction d with
  | zero =>
    intro s f z σ2 hs hz9 hX2 hk
    have hsA : s = A + 1 := by omega
    refine B_X8_fewestToWin_38 _ _ _ _ _ _ ⟨fun _ => hk σ2 hX2, fun q => absurd ((nI_ltI (by omega) (by omega)).mpr (by omega)) q⟩
  | succ d ih =>
    intro s f z σ2 hs hz9 hX2 hk
    have hR2 := hR.of hX2
    have hp := pop_le s 8
    have eF : fwS D hb m A (d + 1) s f z = if mns s A = 0 ∧ pop 8 s < z ∧ dcC D hb m (D 0 1) s (yeM D m ||| s) = true then fwS D hb m A d (s + 1) (some s) (pop 8 s) else fwS D hb m A d (s + 1) f z := rfl
    rw [eF] at hk
    have hmn : mns s A < 256 := mns_lt (n := 8) (by omega) _
    refine B_X8_fewestToWin_38 _ _ _ _ _ _ ⟨fun q => absurd ((nI_ltI (by omega) (by omega)).mp q) (by omega), fun _ => j_bitCount (by omega) ?_⟩
    rw [mns_I, nI_1]
    refine ⟨fun q => ?_, fun q => ⟨fun q2 => ?_, fun q2 => ?_⟩⟩
    · rw [if_neg (fun c => q (by rw [c.1]; rfl))] at hk
      exact ih (s + 1) f z σ2 (by omega) hz9 hX2 hk
    · have q1 : mns s A = 0 := (nI_eq (b := 0) (by omega) (by decide)).mp q
      have q3 := (nI_ltI (by omega) (by omega)).mp q2
      rw [hR2.1.2.1]
      refine x_reckon (S := s) (gt := none) hR2 hm hW hW.2.1 (by omega) gtW0 (fun σ3 W v h3 => ?_)
      have hor : yeM D m ||| s < 2 ^ 8 := Nat.or_lt_two_pow (by omega) (by omega)
      rw [tI_or]
      refine x_says (Y := yeM D m ||| s) hR2 hW h3 (by omega) ?_
      rw [dcd_inv (rk_c hW hm gtW0 h3)]
      show (bI (dcC D hb m (D 0 1) s (yeM D m ||| s)) = 0 → _) ∧ (¬ bI (dcC D hb m (D 0 1) s (yeM D m ||| s)) = 0 → _)
      cases c : dcC D hb m (D 0 1) s (yeM D m ||| s) with
      | false =>
        rw [c, if_neg (fun c2 => absurd c2.2.2 (by decide))] at hk
        exact ⟨fun _ => ih (s + 1) f z σ3 (by omega) hz9 (hX2.trans h3.1) hk, fun q4 => absurd rfl q4⟩
      | true =>
        rw [c, if_pos ⟨q1, q3, rfl⟩] at hk
        exact ⟨fun q4 => absurd q4 (by decide), fun _ => ih (s + 1) (some s) (pop 8 s) σ3 (by omega) (by omega) (hX2.trans h3.1) hk⟩
    · have q3 : ¬ pop 8 s < z := fun c => q2 ((nI_ltI (by omega) (by omega)).mpr c)
      rw [if_neg (fun c => q3 c.2.1)] at hk
      exact ih (s + 1) f z σ2 (by omega) hz9 hX2 hk
end SE
