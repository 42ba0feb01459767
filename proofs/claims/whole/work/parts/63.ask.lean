-- ARGUMENTS as they come
theorem i32_cases (x : Int32) : x < 0 ∨ ∃ k, k < 2 ^ 31 ∧ x = nI k := by
  by_cases h : x < 0
  · exact Or.inl h
  · right
    have h1 : 0 ≤ x.toInt := by
      rw [Int32.lt_iff_toInt_lt] at h
      have : (0 : Int32).toInt = 0 := by decide
      omega
    have h2 := Int32.toInt_lt x
    refine ⟨x.toInt.toNat, by omega, ?_⟩
    apply Int32.toInt_inj.mp
    rw [nI_toInt (by omega)]
    omega
section AQ
variable {l : Launch} {e : hv_Ev} {σ : hv_S} {D : hD} {hb : hB} {It : hT}
theorem x_isMatter {Φ : Int32 → hv_S → Prop} (x : Int32) (k0 : (∀ m, m < 3 → x ≠ nI m) → Φ 0 σ) (k1 : ∀ m, m < 3 → x = nI m → Φ 1 σ) : hv_CI l (hv_e1 e) 0 m_X9_isMatter [.int x] σ Φ := by
  refine B_X9_isMatter _ ⟨fun q => k0 (fun m hm c => absurd (c ▸ q) (nI_pos (by omega))), fun q => ⟨fun q2 => k0 (fun m hm c => ?_), fun q2 => ?_⟩⟩
  · rw [c, show (3 : Int32) = nI 3 from rfl, nI_leI (by omega) (by omega)] at q2
    omega
  · rcases i32_cases x with c | ⟨k, hk, rfl⟩
    · exact absurd c q
    · rw [show (3 : Int32) = nI 3 from rfl, nI_leI (by omega) (by omega)] at q2
      exact k1 k (by omega) rfl
theorem x_sits {Φ : Int32 → hv_S → Prop} (hR : RX D hb It σ) (hW : hWF D) (x : Int32) (k0 : (∀ a, a < D 0 0 → x ≠ nI a) → Φ 0 σ) (k1 : ∀ a, a < D 0 0 → x = nI a → Φ 1 σ) : hv_CI l (hv_e1 e) 0 m_X2_sits [.ref 1, .int x] σ Φ := by
  have hn := hW.1
  refine B_X2_sits _ ⟨fun q => k0 (fun m hm c => absurd (c ▸ q) (nI_pos (by omega))), fun q => ⟨fun q2 => k0 (fun m hm c => ?_), fun q2 => ?_⟩⟩
  · rw [c, hR.1.1, nI_leI (by omega) (by omega)] at q2
    omega
  · rcases i32_cases x with c | ⟨k, hk, rfl⟩
    · exact absurd c q
    · rw [hR.1.1, nI_leI (by omega) (by omega)] at q2
      exact k1 k (by omega) rfl
/-- an answer about a matter -/
noncomputable def anM (f : Nat → Int32) (x : Int32) : Int32 := if x < 0 then -1 else if x.toInt.toNat < 3 then f x.toInt.toNat else -1
theorem anM_in {f : Nat → Int32} {m : Nat} (hm : m < 3) : anM f (nI m) = f m := by
  unfold anM
  rw [if_neg (nI_pos (by omega)), nI_toInt (by omega), Int.toNat_natCast, if_pos hm]
theorem anM_out {f : Nat → Int32} {x : Int32} (h : ∀ m, m < 3 → x ≠ nI m) : anM f x = -1 := by
  unfold anM
  rcases i32_cases x with c | ⟨k, hk, rfl⟩
  · rw [if_pos c]
  · rw [if_neg (nI_pos hk), nI_toInt hk, Int.toNat_natCast]
    by_cases c : k < 3
    · exact absurd rfl (h k c)
    · rw [if_neg c]
theorem x_breach {Φ : Int32 → hv_S → Prop} (hR : RX D hb It σ) (hW : hWF D) (x : Int32) (k : ∀ σ', XF σ σ' → Φ (anM (fun m => oR (brch D hb m)) x) σ') : hv_CI l (hv_e1 e) 7 m_X9_breach [.ref 0, .int x] σ Φ := by
  refine B_X9_breach _ (x_isMatter x (fun h => ⟨fun _ => ?_, fun q => absurd rfl q⟩) (fun m hm hx => ⟨fun q => absurd q (by decide), fun _ => ?_⟩))
  · have := k σ (XF.refl σ); rw [anM_out h] at this; exact this
  · subst hx
    exact x_firstBreach hR hm hW (fun σ' hX => by have := k σ' hX; rw [anM_in hm] at this; exact this)
theorem x_rather {Φ : Int32 → hv_S → Prop} (hR : RX D hb It σ) (hW : hWF D) (x : Int32) (k : ∀ σ', XF σ σ' → Φ (anM (fun m => oR (wish D hb m)) x) σ') : hv_CI l (hv_e1 e) 7 m_X9_rather [.ref 0, .int x] σ Φ := by
  refine B_X9_rather _ (x_isMatter x (fun h => ⟨fun _ => ?_, fun q => absurd rfl q⟩) (fun m hm hx => ⟨fun q => absurd q (by decide), fun _ => ?_⟩))
  · have := k σ (XF.refl σ); rw [anM_out h] at this; exact this
  · subst hx
    exact x_firstWish hR hm hW (fun σ' hX => by have := k σ' hX.w; rw [anM_in hm] at this; exact this)
theorem x_late {Φ : Int32 → hv_S → Prop} (hR : RX D hb It σ) (hW : hWF D) (x : Int32) (k : ∀ σ', XF σ σ' → Φ (anM (fun m => oR (late D hb m)) x) σ') : hv_CI l (hv_e1 e) 7 m_X9_late [.ref 0, .int x] σ Φ := by
  refine B_X9_late _ (x_isMatter x (fun h => ⟨fun _ => ?_, fun q => absurd rfl q⟩) (fun m hm hx => ⟨fun q => absurd q (by decide), fun _ => ?_⟩))
  · have := k σ (XF.refl σ); rw [anM_out h] at this; exact this
  · subst hx
    exact x_lastOtherwise hR hm hW (fun σ' hX => by have := k σ' hX.w; rw [anM_in hm] at this; exact this)
theorem x_fewest {Φ : Int32 → hv_S → Prop} (hR : RX D hb It σ) (hW : hWF D) (x : Int32) (k : ∀ σ', XF σ σ' → Φ (anM (fun m => oR (fewS D hb m)) x) σ') : hv_CI l (hv_e1 e) 7 m_X9_fewest [.ref 0, .int x] σ Φ := by
  refine B_X9_fewest _ (x_isMatter x (fun h => ⟨fun _ => ?_, fun q => absurd rfl q⟩) (fun m hm hx => ⟨fun q => absurd q (by decide), fun _ => ?_⟩))
  · have := k σ (XF.refl σ); rw [anM_out h] at this; exact this
  · subst hx
    exact x_fewestToWin hR hm hW (fun σ' hX => by have := k σ' hX.w; rw [anM_in hm] at this; exact this)
theorem x_decided {Φ : Int32 → hv_S → Prop} (hR : RX D hb It σ) (hW : hWF D) (x : Int32) (k : ∀ σ', XF σ σ' → Φ (anM (fun m => bI (dcC D hb m (D 0 1) 0 (yeM D m))) x) σ') : hv_CI l (hv_e1 e) 7 m_X9_decided [.ref 0, .int x] σ Φ := by
  refine B_X9_decided _ (x_isMatter x (fun h => ⟨fun q => absurd q (by decide), fun _ => ?_⟩) (fun m hm hx => ⟨fun _ => ?_, fun q => absurd q (by decide)⟩))
  · have := k σ (XF.refl σ); rw [anM_out h] at this; exact this
  · subst hx
    refine x_reckonNow hR hm hW (fun σ1 W v h1 => ?_)
    have hR1 := hR.of h1.1
    have hy := yeM_lt D m
    rw [nI_clamp (by omega), hR1.1.2.2.1 m hm]
    refine ⟨vp_in_nI hm (by decide), x_says (Y := yeM D m) hR hW h1 (by omega) ?_⟩
    have := k σ1 h1.1.w
    rw [anM_in hm] at this
    rw [dcd_inv (rk_c hW hm gtW0 h1)]
    show (bI (dcC D hb m (D 0 1) 0 (yeM D m)) = 0 → _) ∧ (¬ bI (dcC D hb m (D 0 1) 0 (yeM D m)) = 0 → _)
    cases c : dcC D hb m (D 0 1) 0 (yeM D m) with
    | false => rw [c] at this; exact ⟨fun _ => this, fun q => absurd rfl q⟩
    | true => rw [c] at this; exact ⟨fun q => absurd q (by decide), fun _ => this⟩
end AQ
