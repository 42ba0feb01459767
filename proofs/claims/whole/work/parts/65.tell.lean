-- voices and right, told
noncomputable def voA (D : hD) (hb : hB) (x y p : Int32) : Int64 := if x < 0 ∨ nI (D 0 0) ≤ x ∨ y < 0 ∨ 2 < y ∨ p < 0 ∨ 1 < p then nope else lZ (lwZ ((cnV D hb y.toInt.toNat (D 0 1) 0 none).2 x.toInt.toNat) (cnV D hb y.toInt.toNat (D 0 1) 0 none).1 p.toInt.toNat)
noncomputable def rtA (D : hD) (hb : hB) (x y p : Int32) : Int64 := if x < 0 ∨ 2 < x ∨ y < 0 ∨ 1 < y ∨ p < 0 ∨ 1 < p then nope else lZ (lwZ (chC D hb x.toInt.toNat (if y = 1 then 255 else 0) none) 100000000 p.toInt.toNat)
section TL
variable {l : Launch} {e : hv_Ev} {σ : hv_S} {D : hD} {hb : hB} {It : hT}
theorem out_le {n : Nat} (hn : n < 2 ^ 31) {x : Int32} (h : ∀ m, m < n → x ≠ nI m) : x < 0 ∨ nI n ≤ x := by
  rcases i32_cases x with c | ⟨k, hk, rfl⟩
  · exact Or.inl c
  · by_cases c : k < n
    · exact absurd rfl (h k c)
    · exact Or.inr ((nI_leI hn hk).mpr (by omega))
theorem x_voices {Φ : Int64 → hv_S → Prop} (hR : RX D hb It σ) (hW : hWF D) (x y z : Int32) (k : ∀ σ', XF σ σ' → Φ (voA D hb x y z) σ') : hv_CL l (hv_e1 e) 7 m_X9_voices [.ref 0, .int x, .int y, .int z] σ Φ := by
  have hn := hW.1
  refine B_X9_voices _ _ _ (x_sits hR hW x (fun h => ⟨fun _ => ?_, fun q => absurd rfl q⟩) (fun a ha hx => ⟨fun q => absurd q (by decide), fun _ => x_isMatter y (fun h => ⟨fun _ => ?_, fun q => absurd rfl q⟩) (fun m hm hy => ⟨fun q => absurd q (by decide), fun _ => x_isPart z (fun h => ⟨fun q => absurd q (by decide), fun _ => ?_⟩) (fun p hp hz => ⟨fun _ => ?_, fun q => absurd q (by decide)⟩)⟩)⟩))
  · have := k σ (XF.refl σ)
    unfold voA at this
    rw [if_pos (by rcases out_le (n := D 0 0) (by omega) h with c | c; exact Or.inl c; exact Or.inr (Or.inl c))] at this
    exact this
  · have := k σ (XF.refl σ)
    unfold voA at this
    rw [if_pos (by rcases out_lt (n := 2) (by decide) h with c | c; exact Or.inr (Or.inr (Or.inl c)); exact Or.inr (Or.inr (Or.inr (Or.inl c))))] at this
    exact this
  · have := k σ (XF.refl σ)
    unfold voA at this
    rw [if_pos (by rcases out_lt (n := 1) (by decide) h with c | c; exact Or.inr (Or.inr (Or.inr (Or.inr (Or.inl c)))); exact Or.inr (Or.inr (Or.inr (Or.inr (Or.inr c)))))] at this
    exact this
  · subst hx
    subst hy
    subst hz
    refine x_reckonNow hR hm hW (fun σ1 W v h1 => ?_)
    have hc := rk_c hW hm gtW0 h1
    have hcb := cnV_b hW hm gtW0 h1.2.1
    have hvb := rk_b h1 a
    refine ⟨vp_in_nI (by omega) (by decide), ?_⟩
    rw [nI_clamp (by omega), h1.2.2.2.1.1, h1.2.2.2.1.2.2 a (by omega)]
    refine x_lowestZ ⟨hvb.1, by omega⟩ ⟨hc.1, by have := h1.2.2.1; omega⟩ (show p ≤ 1 by omega) ?_
    have := k σ1 h1.1.w
    unfold voA at this
    have i1 := in_lt (n := 2) (m := m) (by decide) hm
    have i2 := in_lt (n := 1) (m := p) (by decide) hp
    have i3 : ¬ nI (D 0 0) ≤ nI a := nI_ge (by omega) (by omega)
    rw [if_neg (fun c => by rcases c with c | c | c | c | c | c; exact nI_pos (by omega) c; exact i3 c; exact i1.1 c; exact i1.2 c; exact i2.1 c; exact i2.2 c), nI_toInt (by omega), nI_toInt (by omega), nI_toInt (by omega), Int.toNat_natCast, Int.toNat_natCast, Int.toNat_natCast] at this
    rw [lwZ_inv p hc.1 hc.2.1 hvb.1 (hcb.2 a) (hc.2.2 a)]
    exact this
theorem x_right {Φ : Int64 → hv_S → Prop} (hR : RX D hb It σ) (hW : hWF D) (x y z : Int32) (k : ∀ σ', XF σ σ' → Φ (rtA D hb x y z) σ') : hv_CL l (hv_e1 e) 6 m_X9_right [.ref 0, .int x, .int y, .int z] σ Φ := by
  refine B_X9_right _ _ _ (x_isMatter x (fun h => ⟨fun _ => ?_, fun q => absurd rfl q⟩) (fun m hm hx => ⟨fun q => absurd q (by decide), fun _ => ⟨fun q => ?_, fun q1 => ⟨fun q => ?_, fun q2 => x_isPart z (fun h => ⟨fun q => absurd q (by decide), fun _ => ?_⟩) (fun p hp hz => ⟨fun _ => ?_, fun q => absurd q (by decide)⟩)⟩⟩⟩))
  · have := k σ (XF.refl σ)
    unfold rtA at this
    rw [if_pos (by rcases out_lt (n := 2) (by decide) h with c | c; exact Or.inl c; exact Or.inr (Or.inl c))] at this
    exact this
  · have := k σ (XF.refl σ)
    unfold rtA at this
    rw [if_pos (Or.inr (Or.inr (Or.inl q)))] at this
    exact this
  · have := k σ (XF.refl σ)
    unfold rtA at this
    rw [if_pos (Or.inr (Or.inr (Or.inr (Or.inl q))))] at this
    exact this
  · have := k σ (XF.refl σ)
    unfold rtA at this
    rw [if_pos (by rcases out_lt (n := 1) (by decide) h with c | c; exact Or.inr (Or.inr (Or.inr (Or.inr (Or.inl c)))); exact Or.inr (Or.inr (Or.inr (Or.inr (Or.inr c)))))] at this
    exact this
  · subst hx
    subst hz
    have i1 := in_lt (n := 2) (m := m) (by decide) hm
    have i2 := in_lt (n := 1) (m := p) (by decide) hp
    have key : ∀ S, S = (if y = 1 then 255 else 0) → ∀ σ1, XE σ σ1 → hv_CL l (hv_e1 e) 1 m_X9_lowest [.long (lZ (chC D hb m S none)), .long 100000000, .int (nI p)] σ1 (fun v11 s10 => Φ v11 s10) := fun S hS σ1 hX => by
      have hcb := chC_b (S := S) (gt := none) (hb := hb) hW hm
      refine x_lowestZ (w := 100000000) ⟨hcb.1, by omega⟩ (by decide) (show p ≤ 1 by omega) ?_
      have := k σ1 hX.w
      unfold rtA at this
      rw [if_neg (fun c => by rcases c with c | c | c | c | c | c; exact i1.1 c; exact i1.2 c; exact q1 c; exact q2 c; exact i2.1 c; exact i2.2 c), nI_toInt (by omega), nI_toInt (by omega), Int.toNat_natCast, Int.toNat_natCast, ← hS] at this
      exact this
    refine ⟨fun q => ?_, fun q => ?_⟩
    · exact x_chanceIf (S := 0) (gt := none) hR hm hW (by decide) gtW0 (fun σ1 hX => key 0 (if_neg q).symm σ1 hX)
    · exact x_chanceIf (S := 255) (gt := none) hR hm hW (by decide) gtW0 (fun σ1 hX => key 255 (if_pos q).symm σ1 hX)
end TL
