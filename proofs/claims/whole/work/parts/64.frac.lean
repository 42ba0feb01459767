-- FRACTIONS, told in lowest terms
theorem lwN_inv {y w y' w' : Nat} (p : Nat) (hw : 0 < w) (hw' : 0 < w') (h : y * w' = y' * w) : lwN y w p = lwN y' w' p := by
  have g1 : Nat.gcd (y * w') (w * w') = Nat.gcd y w * w' := Nat.gcd_mul_right y w' w
  have g2 : Nat.gcd (y' * w) (w' * w) = Nat.gcd y' w' * w := Nat.gcd_mul_right y' w w'
  rw [h, Nat.mul_comm w w', g2] at g1
  unfold lwN
  by_cases c : p = 0
  · rw [if_pos c, if_pos c, ← Nat.mul_div_mul_right y (Nat.gcd y w) hw', ← Nat.mul_div_mul_right y' (Nat.gcd y' w') hw, h, g1]
  · rw [if_neg c, if_neg c, ← Nat.mul_div_mul_right w (Nat.gcd y w) hw', ← Nat.mul_div_mul_right w' (Nat.gcd y' w') hw, g1, Nat.mul_comm w w']
/-- a fraction of whole numbers -/
def lwZ (y w : Int) (p : Nat) : Int := (lwN y.toNat w.toNat p : Nat)
theorem lwZ_inv {y w y' w' : Int} (p : Nat) (hw : 0 < w) (hw' : 0 < w') (hy : 0 ≤ y) (hy' : 0 ≤ y') (h : y * w' = y' * w) : lwZ y w p = lwZ y' w' p := by
  unfold lwZ
  refine congrArg (fun n : Nat => (n : Int)) (lwN_inv (y := y.toNat) (w := w.toNat) (y' := y'.toNat) (w' := w'.toNat) p (by omega) (by omega) ?_)
  apply Int.ofNat.inj
  show ((y.toNat * w'.toNat : Nat) : Int) = ((y'.toNat * w.toNat : Nat) : Int)
  rw [Int.natCast_mul, Int.natCast_mul, Int.toNat_of_nonneg hy, Int.toNat_of_nonneg (by omega), Int.toNat_of_nonneg hy', Int.toNat_of_nonneg (by omega)]
  exact h
section FR
variable {l : Launch} {e : hv_Ev} {σ : hv_S} {D : hD} {hb : hB} {It : hT}
theorem x_lowestZ {Φ : Int64 → hv_S → Prop} {y w : Int} {p : Nat} (hy : 0 ≤ y ∧ y ≤ 1000000000) (hw : 0 < w ∧ w ≤ 1000000000) (hp : p ≤ 1) (k : Φ (lZ (lwZ y w p)) σ) :
    hv_CL l (hv_e1 e) 1 m_X9_lowest [.long (lZ y), .long (lZ w), .int (nI p)] σ Φ := by
  have h := x_lowest (l := l) (e := e) (σ := σ) (Φ := Φ) (y := y.toNat) (w := w.toNat) (p := p) (by omega) (by omega) (by omega) hp k
  rw [Int.toNat_of_nonneg hy.1, Int.toNat_of_nonneg (by omega)] at h
  exact h
theorem x_isPart {Φ : Int32 → hv_S → Prop} (x : Int32) (k0 : (∀ p, p < 2 → x ≠ nI p) → Φ 0 σ) (k1 : ∀ p, p < 2 → x = nI p → Φ 1 σ) : hv_CI l (hv_e1 e) 0 m_X9_isPart [.int x] σ Φ := by
  refine B_X9_isPart _ ⟨fun q => k1 0 (by decide) q, fun q => ⟨fun q2 => k0 (fun p hp c => ?_), fun q2 => k1 1 (by decide) q2⟩⟩
  rcases (show p = 0 ∨ p = 1 by omega) with rfl | rfl
  · exact q c
  · exact q2 c
theorem cnV_b (hW : hWF D) {m w S : Nat} {gt : Option (Nat × Nat)} (hm : m < 3) (hg : gtW (D 0 0) gt) {W : Int} {v : Nat → Int} (h : isV (D 0 0) (GX D hb m w S gt) (D 0 3) W v) : 0 < (cnV D hb m w S gt).1 ∧ ∀ a, 0 ≤ (cnV D hb m w S gt).2 a := by
  have := (cnV_of hW hm hg h).1
  exact ⟨this.1, fun a => (isV_nn this a).1⟩
/-- no answer -/
def nope : Int64 := -9223372036854775808
noncomputable def hpA (D : hD) (hb : hB) (x p : Int32) : Int64 := if x < 0 ∨ 2 < x ∨ p < 0 ∨ 1 < p then nope else lZ (lwZ (mxI (cnV D hb x.toInt.toNat (D 0 1) 0 none).2 (D 0 0)) (cnV D hb x.toInt.toNat (D 0 1) 0 none).1 p.toInt.toNat)
theorem out_lt {n : Nat} (hn : n < 2 ^ 31) {x : Int32} (h : ∀ m, m < n + 1 → x ≠ nI m) : x < 0 ∨ nI n < x := by
  rcases i32_cases x with c | ⟨k, hk, rfl⟩
  · exact Or.inl c
  · by_cases c : k < n + 1
    · exact absurd rfl (h k c)
    · exact Or.inr ((nI_ltI (by omega) hk).mpr (by omega))
theorem in_lt {n m : Nat} (hn : n < 2 ^ 31) (hm : m < n + 1) : ¬ nI m < 0 ∧ ¬ nI n < nI m := ⟨nI_pos (by omega), fun q => by have := (nI_ltI (by omega) (by omega)).mp q; omega⟩
theorem x_heap {Φ : Int64 → hv_S → Prop} (hR : RX D hb It σ) (hW : hWF D) (x y : Int32) (k : ∀ σ', XF σ σ' → Φ (hpA D hb x y) σ') : hv_CL l (hv_e1 e) 7 m_X9_heap [.ref 0, .int x, .int y] σ Φ := by
  refine B_X9_heap _ _ (x_isMatter x (fun h => ⟨fun _ => ?_, fun q => absurd rfl q⟩) (fun m hm hx => ⟨fun q => absurd q (by decide), fun _ => x_isPart y (fun h => ⟨fun q => absurd q (by decide), fun _ => ?_⟩) (fun p hp hy => ⟨fun _ => ?_, fun q => absurd q (by decide)⟩)⟩))
  · have := k σ (XF.refl σ)
    unfold hpA at this
    rw [if_pos (by rcases out_lt (n := 2) (by decide) h with c | c; exact Or.inl c; exact Or.inr (Or.inl c))] at this
    exact this
  · have := k σ (XF.refl σ)
    unfold hpA at this
    rw [if_pos (by rcases out_lt (n := 1) (by decide) h with c | c; exact Or.inr (Or.inr (Or.inl c)); exact Or.inr (Or.inr (Or.inr c)))] at this
    exact this
  · subst hx
    subst hy
    refine x_reckonNow hR hm hW (fun σ1 W v h1 => ?_)
    have hR1 := hR.of h1.1
    have hc := rk_c hW hm gtW0 h1
    have hcb := cnV_b hW hm gtW0 h1.2.1
    have hmx := mxI_b (v := v) (B := 800000000) (by omega) (fun a => (rk_b h1 a).2) (D 0 0)
    have hmy : ∀ n, 0 ≤ mxI (cnV D hb m (D 0 1) 0 none).2 n := by
      intro n
      induction n with
      | zero => exact Int.le_refl _
      | succ n ih => show 0 ≤ max _ _; have := hcb.2 n; omega
    refine x_highest (v := v) hR1.1.1 hW.1 h1.2.2.2.1.2.2 (rk_b h1) ?_
    rw [h1.2.2.2.1.1]
    refine x_lowestZ ⟨hmx.1, by omega⟩ ⟨hc.1, by have := h1.2.2.1; omega⟩ (show p ≤ 1 by omega) ?_
    have := k σ1 h1.1.w
    unfold hpA at this
    have i1 := in_lt (n := 2) (m := m) (by decide) hm
    have i2 := in_lt (n := 1) (m := p) (by decide) hp
    rw [if_neg (fun c => by rcases c with c | c | c | c; exact i1.1 c; exact i1.2 c; exact i2.1 c; exact i2.2 c), nI_toInt (by omega), nI_toInt (by omega), Int.toNat_natCast, Int.toNat_natCast] at this
    rw [lwZ_inv p hc.1 hc.2.1 hmx.1 (hmy _) (mxI_inv hc _)]
    exact this
end FR
