-- TABLES, read
section TB
variable {l : Launch} {e : hv_Ev} {σ : hv_S} {D : hD} {hb : hB} {It : hT}
theorem x_get {Φ : Int64 → hv_S → Prop} {t i : Nat} (hR : RX D hb It σ) (hW : hWF D) (ht : t < 6) (hi : i < D 11 t) (k : Φ (It t i) σ) : hv_CL l (hv_e1 e) 0 m_X7_get [.ref 39, .int (nI t), .int (nI i)] σ Φ := by
  have h60 := (hW.2.2.2.2.2.2.2.2.2.2.2.2.2 t ht).2.1
  refine B_X7_get _ _ ?_
  rw [tI60, nI_clamp (by omega), hR.2.2.2.2.2 t i ht hi]
  exact ⟨vp_in_nI (by omega) (by decide), k⟩
theorem x_table {Φ : Int32 → hv_S → Prop} (hR : RX D hb It σ) (hW : hWF D) (x y z : Int32) (k : ∀ σ', XF σ σ' → Φ (tbA D hb It x y z) σ') : hv_CI l (hv_e1 e) 7 m_X9_table [.ref 0, .int x, .int y, .int z] σ Φ := by
  have hn := hW.1
  unfold tbA at k
  -- the loop
  have loop : ∀ t m, t < 6 → m < 3 → ∀ σ1 W v, rkI D hb m (D 0 1) 0 none σ σ1 W v → Φ (nI (tbS D hb It m t y.toInt (D 0 0) 0)) σ1 → L_X9_table_60 l e Φ (nI t) y 0 σ1 := fun t m ht hm σ1 W v h1 hk => by
    have hR1 := hR.of h1.1
    have hc := rk_c hW hm gtW0 h1
    have hcb := cnV_b hW hm gtW0 h1.2.1
    have hvb := rk_b h1
    have h60 := (hW.2.2.2.2.2.2.2.2.2.2.2.2.2 t ht).2.1
    have hy1 := Int32.toInt_lt y
    have hy2 := Int32.le_toInt y
    suffices ∀ d k, k + d = D 0 0 → (k = 0 ∨ 0 ≤ y.toInt) → Φ (nI (tbS D hb It m t y.toInt d k)) σ1 → L_X9_table_60 l e Φ (nI t) y (nI k) σ1 by exact this (D 0 0) 0 (by omega) (Or.inl rfl) hk
    intro d
    induction d with
    | zero =>
      intro k hkd h0 hΦ
      have hkn : k = D 0 0 := by omega
      refine B_X9_table_60 _ _ _ ⟨fun _ => ?_, fun q => absurd (by rw [hR1.1.1, hkn]; exact nI_le (Nat.le_refl _) (by omega)) q⟩
      rw [hR1.1.1, ← hkn]
      exact hΦ
    | succ d ih =>
      intro k hkd h0 hΦ
      have eT : tbS D hb It m t y.toInt (d + 1) k = if y.toInt < 0 ∨ (D 11 t : Int) ≤ y.toInt + 2 * k + 1 then 100 + k else
        if It t (y.toInt.toNat + 2 * k) ≠ lZ (lwZ ((cnV D hb m (D 0 1) 0 none).2 k) (cnV D hb m (D 0 1) 0 none).1 0) ∨ It t (y.toInt.toNat + 2 * k + 1) ≠ lZ (lwZ ((cnV D hb m (D 0 1) 0 none).2 k) (cnV D hb m (D 0 1) 0 none).1 1) then k else tbS D hb It m t y.toInt d (k + 1) := rfl
      rw [eT] at hΦ
      have e1 : y.toInt64 + ((2 : Int32) * nI k).toInt64 = lZ (y.toInt + 2 * k) := by
        have e2 : (2 : Int32) * nI k = nI (2 * k) := by rw [show (2 : Int32) = nI 2 from rfl, pk_mul]
        have e3 : y.toInt64 = lZ y.toInt := by
          apply Int64.toInt_inj.mp
          rw [Int32.toInt_toInt64, lZ_i (by omega) (by omega)]
        rw [e2, e3, nI_lZ (by omega), lZ_add]
        congr 1
      refine B_X9_table_60 _ _ _ ⟨fun q => absurd q (by rw [hR1.1.1]; exact nI_ge (by omega) (by omega)), fun _ => ?_⟩
      rw [e1, ← lZ_0, lZ_lt (by omega) (by omega) (by omega) (by omega), nI_clamp (by omega), nI_clamp (by omega), (hR1.2.2.2.2.1 t ht).2, nI_lZ (by omega), ← lZ_1, lZ_add, lZ_lt (by omega) (by omega) (by omega) (by omega)]
      have e100 : (100 : Int32) + nI k = nI (100 + k) := nI_add 100 k
      rw [e100]
      refine ⟨fun q => ?_, fun q1 => ⟨vp_in_nI ht (by decide), fun q2 => ?_, fun q => ?_⟩⟩
      · rw [if_pos (Or.inl (by omega))] at hΦ; exact hΦ
      · rw [if_neg (fun c => by omega)] at hΦ
        have hy0 : 0 ≤ y.toInt := by omega
        obtain ⟨i, hi⟩ : ∃ i : Nat, y.toInt = i := ⟨y.toInt.toNat, by omega⟩
        rw [hi, Int.toNat_natCast] at hΦ
        rw [hi]
        have e4 : (lZ ((i : Int) + 2 * k)).toInt32 = nI (i + 2 * k) := by
          apply Int32.toInt_inj.mp
          rw [nI_toInt (by omega), Int64.toInt_toInt32, lZ_i (by omega) (by omega)]
          have := Int.bmod_eq_of_le (n := ((i : Int) + 2 * k)) (m := 2 ^ 32) (by omega) (by omega)
          rw [this]
          omega
        rw [e4, nI_1]
        have hk8 : k < 8 := by omega
        have hin8 : vp_in (nI k) 8 := vp_in_nI hk8 (by decide)
        have low : ∀ (p : Nat) (Ψ : Int64 → hv_S → Prop), p ≤ 1 → Ψ (lZ (lwZ ((cnV D hb m (D 0 1) 0 none).2 k) (cnV D hb m (D 0 1) 0 none).1 p)) σ1 → hv_CL l (hv_e1 e) 1 m_X9_lowest [.long (σ1.2.1 32 k), .long (σ1.2.1 21 6), .int (nI p)] σ1 Ψ := fun p Ψ hp hΨ => by
          rw [h1.2.2.2.1.1, h1.2.2.2.1.2.2 k hk8]
          refine x_lowestZ ⟨(hvb k).1, by have := (hvb k).2; omega⟩ ⟨hc.1, by have := h1.2.2.1; omega⟩ hp ?_
          rw [lwZ_inv p hc.1 hc.2.1 (hvb k).1 (hcb.2 k) (hc.2.2 k)]
          exact hΨ
        refine x_get hR1 hW ht (by omega) ⟨hin8, low 0 _ (by decide) ⟨fun q => ?_, fun q => x_get hR1 hW ht (by omega) ⟨hin8, low 1 _ (by decide) ⟨fun q3 => ?_, fun q3 => ?_⟩⟩⟩⟩
        · rw [if_pos (Or.inl q)] at hΦ; exact hΦ
        · rw [nI_1]
          rw [if_neg (fun c => c.elim (fun c => c q) (fun c => c q3)), ← hi] at hΦ
          exact ih (k + 1) (by omega) (Or.inr hy0) hΦ
        · rw [if_pos (Or.inr q3)] at hΦ; exact hΦ
      · rw [if_pos (Or.inr (by omega))] at hΦ; exact hΦ
  refine B_X9_table _ _ _ (x_exists x (fun h => ⟨fun _ => ?_, fun q => absurd rfl q⟩) (fun t ht hx => ⟨fun q => absurd q (by decide), fun _ => x_isMatter z (fun h => ⟨fun q => absurd rfl q, fun _ => ?_⟩) (fun m hm hz => ⟨fun _ => ?_, fun q => absurd q (by decide)⟩)⟩))
  · have := k σ (XF.refl σ); rw [an1_out (by decide) h] at this; exact this
  · have := k σ (XF.refl σ); rw [hx, an1_in (by decide) ht, an1_out (by decide) h] at this; exact this
  · rw [hx, an1_in (by decide) ht, hz, an1_in (by decide) hm] at k
    subst hx
    subst hz
    have h5 := (hW.2.2.2.2.2.2.2.2.2.2.2.2.2 t ht).1
    have c3 : nI (D 10 t) - 1 = 3 ↔ D 10 t = 4 := srt_k (k := 3) h5 (by decide)
    rw [nI_clamp (by omega), (hR.2.2.2.2.1 t ht).1, srt_m1 h5, c3]
    have hv : vp_in (nI t) 6 := vp_in_nI ht (by decide)
    refine ⟨hv, fun q => ?_, fun q1 => ⟨hv, fun q => ?_, fun q => ?_⟩⟩
    · rw [if_neg (fun c => c.1 q)] at k
      exact x_reckonNow hR hm hW (fun σ1 W v h1 => loop t m ht hm σ1 W v h1 (k σ1 h1.1.w))
    · rw [if_neg (fun c => c.2 q)] at k
      exact x_reckonNow hR hm hW (fun σ1 W v h1 => loop t m ht hm σ1 W v h1 (k σ1 h1.1.w))
    · have := k σ (XF.refl σ)
      rw [if_pos ⟨q1, q⟩] at this; exact this
end TB
