-- mend, told
noncomputable def mdA (D : hD) (hb : hB) (x h n : Int32) : Int32 := if x < 0 ∨ 2 < x then -1 else if h < 0 ∨ 8 < h ∨ n < 0 ∨ 8 < n then -2 else oR (mend D hb x.toInt.toNat h.toInt.toNat n.toInt.toNat)
section FC
variable {l : Launch} {e : hv_Ev} {σ : hv_S} {D : hD} {hb : hB} {It : hT}
theorem i32_in {x : Int32} {n : Nat} (h1 : ¬ x < 0) (h2 : ¬ nI n < x) (hn : n < 2 ^ 31) : ∃ k, k ≤ n ∧ x = nI k := by
  rcases i32_cases x with c | ⟨k, hk, rfl⟩
  · exact absurd c h1
  · exact ⟨k, Nat.le_of_not_lt (fun c => h2 ((nI_ltI hn hk).mpr c)), rfl⟩
theorem x_mend {Φ : Int32 → hv_S → Prop} (hR : RX D hb It σ) (hW : hWF D) (x y z : Int32) (k : ∀ σ', XF σ σ' → Φ (mdA D hb x y z) σ') : hv_CI l (hv_e1 e) 7 m_X9_mend [.ref 0, .int x, .int y, .int z] σ Φ := by
  refine B_X9_mend _ _ _ (x_isMatter x (fun h => ⟨fun q => absurd q (by decide), fun _ => ?_⟩) (fun m hm hx => ⟨fun _ => ?_, fun q => absurd q (by decide)⟩))
  · have := k σ (XF.refl σ)
    unfold mdA at this
    rw [if_pos (show x < 0 ∨ 2 < x from out_lt (n := 2) (by decide) h)] at this
    exact this
  · subst hx
    have i1 := in_lt (n := 2) (m := m) (by decide) hm
    unfold mdA at k
    rw [if_neg (show ¬ (nI m < 0 ∨ 2 < nI m) from fun c => c.elim i1.1 i1.2), nI_toInt (by omega), Int.toNat_natCast] at k
    refine ⟨fun q => ?_, fun q1 => ⟨fun q => ?_, fun q2 => ⟨fun q => ?_, fun q3 => ⟨fun q4 => ?_, fun q => ?_⟩⟩⟩⟩
    · have := k σ (XF.refl σ); rw [if_pos (Or.inl q)] at this; exact this
    · have := k σ (XF.refl σ); rw [if_pos (Or.inr (Or.inl q))] at this; exact this
    · have := k σ (XF.refl σ); rw [if_pos (Or.inr (Or.inr (Or.inl q)))] at this; exact this
    · have q5 : ¬ 8 < z := Int32.not_lt.mpr q4
      obtain ⟨h, hh, rfl⟩ := i32_in (n := 8) q1 q2 (by decide)
      obtain ⟨n, hn, rfl⟩ := i32_in (n := 8) q3 q5 (by decide)
      rw [if_neg (fun c => by rcases c with c | c | c | c; exact q1 c; exact q2 c; exact q3 c; exact q5 c), nI_toInt (by omega), nI_toInt (by omega), Int.toNat_natCast, Int.toNat_natCast] at k
      exact x_bestMending hR hm hW hh hn (fun σ' hX => k σ' hX.w)
    · have := k σ (XF.refl σ); rw [if_pos (Or.inr (Or.inr (Or.inr (Int32.not_le.mp q))))] at this; exact this
end FC
