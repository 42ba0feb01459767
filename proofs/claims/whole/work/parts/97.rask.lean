-- THE REFERENCE: questions
theorem uv_c {D : hD} (hW : hWF D) {hb : hB} {m w : Nat} (hm : m < 3) {σ : hv_S} {W : Int} {v : Nat → Int} (h : uvI D (GX D hb m w 0 none) σ W v) : prp W v (cnV D hb m w 0 none).1 (cnV D hb m w 0 none).2 := (cnV_of hW hm gtW0 h.2.2.1).2
theorem uv_low {D : hD} (hW : hWF D) {hb : hB} {m w : Nat} (hm : m < 3) {σ : hv_S} {W : Int} {v : Nat → Int} (h : uvI D (GX D hb m w 0 none) σ W v) (a p : Nat) : lwZ (v a) W p = lwZ ((cnV D hb m w 0 none).2 a) (cnV D hb m w 0 none).1 p :=
  lwZ_inv p (uv_c hW hm h).1 (uv_c hW hm h).2.1 (h.2.2.2.2.2.2.2 a).1 ((cnV_b hW hm gtW0 h.2.2.1).2 a) ((uv_c hW hm h).2.2 a)
section QA
variable {l : Launch} {e : hv_Ev} {σ : hv_S} {D : hD} {hb : hB} {It : hT}
theorem y_now {Φ : hv_S → Prop} {m : Nat} (hR : RM D hb It σ) (hW : hWF D) (hm : m < 3) (k : ∀ σ' W v, ME σ σ' → RM D hb It σ' → uvI D (GX D hb m (D 0 1) 0 none) σ' W v → Φ σ') : hv_CV l (hv_e2 e) 12 m_X10_findVoices [.ref 60, .int (nI m), .int (σ.1 60 1)] σ Φ := by
  have := hW.2.1
  rw [hR.1.2.1]
  exact y_findVoices hR hW hm (by omega) k
theorem y_decC {Φ : Int32 → hv_S → Prop} {m w S : Nat} {W : Int} {v : Nat → Int} (hR : RM D hb It σ) (hW : hWF D) (hm : m < 3) (h : uvI D (GX D hb m w 0 none) σ W v) (hS : S < 2 ^ 31) (k : Φ (bI (dcC D hb m w 0 S)) σ) : hv_CI l (hv_e2 e) 1 m_X10_decides [.ref 60, .int (nI S)] σ Φ := by
  refine y_decides hR hW h.2.2.2 hS ?_
  rw [dcd_inv (uv_c hW hm h) S]; exact k
theorem y_partC {Φ : Int64 → hv_S → Prop} {m w a p : Nat} {W : Int} {v : Nat → Int} (hW : hWF D) (hm : m < 3) (h : uvI D (GX D hb m w 0 none) σ W v) (ha : a < D 0 0) (hp : p ≤ 1) (k : Φ (lZ (lwZ ((cnV D hb m w 0 none).2 a) (cnV D hb m w 0 none).1 p)) σ) :
    hv_CL l (hv_e2 e) 1 m_X10_part [.ref 60, .long (σ.2.1 75 a), .long (σ.2.1 60 40), .int (nI p)] σ Φ := by
  obtain ⟨g1, g2, g3, g4, g5⟩ := h.2.2.2
  have := g5 a
  rw [g1, g2 a ha]
  refine y_part ⟨this.1, by omega⟩ ⟨g3, g4⟩ hp ?_
  rw [uv_low hW hm h]; exact k
theorem y_voices {Φ : Int64 → hv_S → Prop} (hR : RM D hb It σ) (hW : hWF D) (x y z : Int32) (k : ∀ σ', RM D hb It σ' → Φ (voA D hb x y z) σ') : hv_CL l (hv_e2 e) 13 m_X10_voices [.ref 60, .int x, .int y, .int z] σ Φ := by
  have hn := hW.1
  have k0 := k σ hR
  unfold voA at k k0
  refine B_X10_voices _ _ _ (y_isMember hR hW x (fun h => ⟨fun _ => ?_, fun q => absurd rfl q⟩) (fun a ha hx => ⟨fun q => absurd q (by decide), fun _ => y_isMatter y (fun h => ⟨fun _ => ?_, fun q => absurd rfl q⟩) (fun m hm hy => ⟨fun q => absurd q (by decide), fun _ => y_inN (n := 2) (by decide) (by decide) (fun h => ⟨fun q => absurd rfl q, fun _ => ?_⟩) (fun p hp hz => ⟨fun _ => ?_, fun q => absurd q (by decide)⟩)⟩)⟩))
  · rw [if_pos (by rcases out_le (n := D 0 0) (by omega) h with c | c; exact Or.inl c; exact Or.inr (Or.inl c))] at k0
    exact k0
  · rw [if_pos (by rcases out_lt (n := 2) (by decide) h with c | c; exact Or.inr (Or.inr (Or.inl c)); exact Or.inr (Or.inr (Or.inr (Or.inl c))))] at k0
    exact k0
  · rw [if_pos (by rcases out_lt (n := 1) (by decide) h with c | c; exact Or.inr (Or.inr (Or.inr (Or.inr (Or.inl c)))); exact Or.inr (Or.inr (Or.inr (Or.inr (Or.inr c)))))] at k0
    exact k0
  · subst hx
    subst hy
    subst hz
    refine y_now hR hW hm (fun σ1 W v _ hR1 h1 => ?_)
    rw [nI_clamp (by omega)]
    refine ⟨vp_in_nI (by omega) (by decide), y_partC hW hm h1 ha (show p ≤ 1 by omega) ?_⟩
    have := k σ1 hR1
    have i1 := in_lt (n := 2) (m := m) (by decide) hm
    have i2 := in_lt (n := 1) (m := p) (by decide) hp
    have i3 : ¬ nI (D 0 0) ≤ nI a := nI_ge (by omega) (by omega)
    rw [if_neg (fun c => by rcases c with c | c | c | c | c | c; exact nI_pos (by omega) c; exact i3 c; exact i1.1 c; exact i1.2 c; exact i2.1 c; exact i2.2 c), nI_toInt (by omega), nI_toInt (by omega), nI_toInt (by omega), Int.toNat_natCast, Int.toNat_natCast, Int.toNat_natCast] at this
    exact this
theorem y_lost {Φ : Int32 → hv_S → Prop} (hR : RM D hb It σ) (hW : hWF D) (x : Int32) (k : ∀ σ', RM D hb It σ' → Φ (an1 3 x (fun m => nI (lstM D hb m)) (-1)) σ') : hv_CI l (hv_e2 e) 13 m_X10_lost [.ref 60, .int x] σ Φ := by
  refine B_X10_lost _ (y_isMatter x (fun h => ⟨fun q => absurd rfl q, fun _ => ?_⟩) (fun m hm hx => ⟨fun _ => ?_, fun q => absurd q (by decide)⟩))
  · rw [an1_out (by decide) h] at k; exact k σ hR
  · subst hx
    rw [an1_in (by decide) hm] at k
    refine y_now hR hW hm (fun σ1 W v _ hR1 h1 => ?_)
    rw [h1.2.1]; exact k σ1 hR1
theorem y_decided {Φ : Int32 → hv_S → Prop} (hR : RM D hb It σ) (hW : hWF D) (x : Int32) (k : ∀ σ', RM D hb It σ' → Φ (anM (fun m => bI (dcC D hb m (D 0 1) 0 (yeM D m))) x) σ') : hv_CI l (hv_e2 e) 13 m_X10_decided [.ref 60, .int x] σ Φ := by
  refine B_X10_decided _ (y_isMatter x (fun h => ⟨fun q => absurd rfl q, fun _ => ?_⟩) (fun m hm hx => ⟨fun _ => ?_, fun q => absurd q (by decide)⟩))
  · rw [anM_out h] at k; exact k σ hR
  · subst hx
    rw [anM_in hm] at k
    refine y_now hR hW hm (fun σ1 W v _ hR1 h1 => y_thinks hR1 hW hm (y_decC hR1 hW hm h1 (by have := yeM_lt D m; omega) ?_))
    have k := k σ1 hR1
    rw [bI_0]
    refine ⟨fun q => by rw [q] at k; exact k, fun q => ?_⟩
    simp at q
    rw [q] at k; exact k
theorem y_turning {Φ : Int32 → hv_S → Prop} (hR : RM D hb It σ) (hW : hWF D) (x : Int32) (k : ∀ σ', RM D hb It σ' → Φ (an1 3 x (fun m => nI (trM D hb m)) (-1)) σ') : hv_CI l (hv_e2 e) 13 m_X10_turning [.ref 60, .int x] σ Φ := by
  have hn := hW.1
  refine B_X10_turning _ (y_isMatter x (fun h => ⟨fun q => absurd rfl q, fun _ => ?_⟩) (fun m hm hx => ⟨fun _ => ?_, fun q => absurd q (by decide)⟩))
  · rw [an1_out (by decide) h] at k; exact k σ hR
  · subst hx
    rw [an1_in (by decide) hm] at k
    have hy := yeM_lt D m
    refine y_now hR hW hm (fun σ1 W v _ hR1 h1 => ?_)
    suffices ∀ d i, i + d = D 0 0 → L_X10_turning_23 l e Φ (nI m) (nI (msk (fun a => dcC D hb m (D 0 1) 0 (yeM D m) != dcC D hb m (D 0 1) 0 (yeM D m ^^^ 2 ^ a)) i)) (nI i) σ1 by exact this (D 0 0) 0 (by omega)
    intro d
    induction d with
    | zero =>
      intro i hi
      have hin : i = D 0 0 := by omega
      subst hin
      exact B_X10_turning_23 _ _ _ ⟨fun _ => k σ1 hR1, fun q => absurd (by rw [hR1.1.1]; exact nI_le (Nat.le_refl _) (by omega)) q⟩
    | succ d ih =>
      intro i hi
      refine B_X10_turning_23 _ _ _ ⟨fun q => absurd q (by rw [hR1.1.1]; exact nI_ge (by omega) (by omega)), fun _ => y_thinks hR1 hW hm (y_decC hR1 hW hm h1 (by omega) (y_thinks hR1 hW hm ?_))⟩
      rw [one_shl (by omega), tI_xor, nI_1]
      have hx2 : yeM D m ^^^ 2 ^ i < 2 ^ 8 := Nat.xor_lt_two_pow (by omega) (Nat.pow_lt_pow_right (by decide) (by omega))
      refine y_decC hR1 hW hm h1 (by omega) ?_
      rw [bI_eq, tI_or, show (0 : Int32) = nI 0 from rfl, tI_or, Nat.or_zero]
      refine ⟨fun q => ?_, fun q => ?_⟩
      · rw [← msk_step (p := fun a => dcC D hb m (D 0 1) 0 (yeM D m) != dcC D hb m (D 0 1) 0 (yeM D m ^^^ 2 ^ a)) (i := i) (by simp [q])]
        exact ih (i + 1) (by omega)
      · rw [msk_stepT (p := fun a => dcC D hb m (D 0 1) 0 (yeM D m) != dcC D hb m (D 0 1) 0 (yeM D m ^^^ 2 ^ a)) (i := i) (by simp [q])]
        exact ih (i + 1) (by omega)
theorem y_two (hR : RM D hb It σ) (hW : hWF D) : (1 : Int32) <<< ((σ.1 60 0) &&& 31) = nI (2 ^ D 0 0) := by
  have hn := hW.1
  rw [hR.1.1, one_shl (by omega)]
theorem y_power {Φ : Int32 → hv_S → Prop} (hR : RM D hb It σ) (hW : hWF D) (x y : Int32) (k : ∀ σ', RM D hb It σ' → Φ (pwA D hb x y) σ') : hv_CI l (hv_e2 e) 13 m_X10_power [.ref 60, .int x, .int y] σ Φ := by
  have hn := hW.1
  have p8 : 2 ^ D 0 0 ≤ 2 ^ 8 := Nat.pow_le_pow_right (by decide) hn
  unfold pwA at k
  refine B_X10_power _ _ (y_isMember hR hW x (fun h => ⟨fun _ => ?_, fun q => absurd rfl q⟩) (fun a ha hx => ⟨fun q => absurd q (by decide), fun _ => y_isMatter y (fun h => ⟨fun q => absurd rfl q, fun _ => ?_⟩) (fun m hm hy => ⟨fun _ => ?_, fun q => absurd q (by decide)⟩)⟩))
  · rw [an1_out (by omega) h] at k; exact k σ hR
  · rw [hx, an1_in (by omega) ha, an1_out (by omega) h] at k; exact k σ hR
  · rw [hx, an1_in (by omega) ha, hy, an1_in (by omega) hm] at k
    subst hx
    subst hy
    refine y_now hR hW hm (fun σ1 W v _ hR1 h1 => y_speaking hR1 hW h1.2.2.2 ?_)
    rw [one_shl (by omega), mns_I]
    have eO : mns (vts D v) (2 ^ a) = othM D hb m a := by unfold vts othM; rw [vts_inv (uv_c hW hm h1)]
    rw [eO]
    have hOl : othM D hb m a < 2 ^ D 0 0 := mns_lt (msk_lt _ _) _
    suffices ∀ d s, s + d = 2 ^ D 0 0 → L_X10_power_44 l e Φ (nI a) (nI (othM D hb m a)) (nI (pwS D hb m a s)) (nI s) σ1 by exact this (2 ^ D 0 0) 0 (by omega)
    intro d
    induction d with
    | zero =>
      intro s hs
      have hs2 : s = 2 ^ D 0 0 := by omega
      refine B_X10_power_44 _ _ _ _ ⟨fun _ => by rw [hs2]; exact k σ1 hR1, fun q => absurd (by rw [y_two hR1 hW, hs2]; exact nI_le (Nat.le_refl _) (by omega)) q⟩
    | succ d ih =>
      intro s hs
      have hth := ih (s + 1) (by omega)
      have eS : pwS D hb m a (s + 1) = pwS D hb m a s + if mns s (othM D hb m a) = 0 ∧ dcC D hb m (D 0 1) 0 (s ||| 2 ^ a) ≠ dcC D hb m (D 0 1) 0 s then 1 else 0 := rfl
      have hmn : mns s (othM D hb m a) < 2 ^ 8 := mns_lt (by omega) _
      refine B_X10_power_44 _ _ _ _ ⟨fun q => absurd q (by rw [y_two hR1 hW]; exact nI_ge (by omega) (by omega)), fun _ => ?_⟩
      rw [mns_I, nI_1, nI_1]
      refine ⟨fun q => ?_, fun q => y_decC hR1 hW hm h1 (by omega) ?_⟩
      · rw [eS, if_neg (fun c => q (by rw [c.1]; rfl))] at hth; exact hth
      · have q1 : mns s (othM D hb m a) = 0 := (nI_eq (b := 0) (by omega) (by decide)).mp q
        rw [one_shl (by omega), tI_or]
        have ho2 : s ||| 2 ^ a < 2 ^ 8 := lt_or2 (by omega) (by omega)
        refine y_decC hR1 hW hm h1 (by omega) ?_
        rw [bI_eq]
        refine ⟨fun q2 => ?_, fun q2 => ?_⟩
        · rw [eS, if_neg (fun c => c.2 q2.symm)] at hth; exact hth
        · rw [eS, if_pos ⟨q1, fun c => q2 c.symm⟩] at hth; exact hth
theorem y_few {Φ : Int32 → hv_S → Prop} (hR : RM D hb It σ) (hW : hWF D) (x : Int32) (k : ∀ σ', RM D hb It σ' → Φ (an1 3 x (fun m => oR (feS D hb m (2 ^ D 0 0))) (-1)) σ') : hv_CI l (hv_e2 e) 13 m_X10_few [.ref 60, .int x] σ Φ := by
  have hn := hW.1
  have p8 : 2 ^ D 0 0 ≤ 2 ^ 8 := Nat.pow_le_pow_right (by decide) hn
  refine B_X10_few _ (y_isMatter x (fun h => ⟨fun q => absurd rfl q, fun _ => ?_⟩) (fun m hm hx => ⟨fun _ => ?_, fun q => absurd q (by decide)⟩))
  · rw [an1_out (by decide) h] at k; exact k σ hR
  · subst hx
    rw [an1_in (by decide) hm] at k
    refine y_now hR hW hm (fun σ1 W v _ hR1 h1 => ?_)
    suffices ∀ d s, s + d = 2 ^ D 0 0 → (∀ z, feS D hb m s = some z → z < s) → L_X10_few_24 l e Φ (oR (feS D hb m s)) (nI s) σ1 by exact this (2 ^ D 0 0) 0 (by omega) (fun z hz => absurd hz (by simp [feS]))
    intro d
    induction d with
    | zero =>
      intro s hs _
      have hs2 : s = 2 ^ D 0 0 := by omega
      exact B_X10_few_24 _ _ ⟨fun _ => by rw [hs2]; exact k σ1 hR1, fun q => absurd (by rw [y_two hR1 hW, hs2]; exact nI_le (Nat.le_refl _) (by omega)) q⟩
    | succ d ih =>
      intro s hs hlt
      have hth := ih (s + 1) (by omega)
      have eS : feS D hb m (s + 1) = if dcC D hb m (D 0 1) 0 s = true ∧ lsB s (feS D hb m s) = true then some s else feS D hb m s := rfl
      refine B_X10_few_24 _ _ ⟨fun q => absurd q (by rw [y_two hR1 hW]; exact nI_ge (by omega) (by omega)), fun _ => y_decC hR1 hW hm h1 (by omega) ?_⟩
      rw [bI_0, nI_1]
      have keep : ¬ (dcC D hb m (D 0 1) 0 s = true ∧ lsB s (feS D hb m s) = true) → L_X10_few_24 l e Φ (oR (feS D hb m s)) (nI (s + 1)) σ1 := fun q => by
        rw [if_neg q] at eS
        rw [eS] at hth
        exact hth (fun z hz => by have := hlt z hz; omega)
      have take : dcC D hb m (D 0 1) 0 s = true → lsB s (feS D hb m s) = true → L_X10_few_24 l e Φ (nI s) (nI (s + 1)) σ1 := fun q1 q2 => by
        rw [if_pos ⟨q1, q2⟩] at eS
        rw [eS] at hth
        exact hth (fun z hz => by cases hz; omega)
      refine ⟨fun q => keep (fun c => by rw [q] at c; exact absurd c.1 (by decide)), fun q => ?_⟩
      have q1 : dcC D hb m (D 0 1) 0 s = true := by simpa using q
      cases hf : feS D hb m s with
      | none => exact ⟨fun _ => take q1 (by rw [hf]; rfl), fun z => absurd (by decide) z⟩
      | some z =>
        have hz := hlt z hf
        have p1 := pop_le s 8
        have p2 := pop_le z 8
        refine ⟨fun c => absurd c (nI_pos (by omega)), fun _ => y_ones (by omega) (y_ones (S := z) (by omega) ?_)⟩
        rw [nI_leI (by omega) (by omega)]
        refine ⟨fun c => ?_, fun c => ?_⟩
        · have := keep (fun c2 => by
            have c3 := c2.2
            rw [hf] at c3
            have c3 : pop 8 s < pop 8 z := of_decide_eq_true c3
            omega)
          rw [hf] at this; exact this
        · exact take q1 (by rw [hf]; exact decide_eq_true (by omega))
theorem y_heap {Φ : Int64 → hv_S → Prop} (hR : RM D hb It σ) (hW : hWF D) (x y : Int32) (k : ∀ σ', RM D hb It σ' → Φ (hpA D hb x y) σ') : hv_CL l (hv_e2 e) 13 m_X10_heap [.ref 60, .int x, .int y] σ Φ := by
  have k0 := k σ hR
  unfold hpA at k k0
  refine B_X10_heap _ _ (y_isMatter x (fun h => ⟨fun _ => ?_, fun q => absurd rfl q⟩) (fun m hm hx => ⟨fun q => absurd q (by decide), fun _ => y_inN (n := 2) (by decide) (by decide) (fun h => ⟨fun q => absurd rfl q, fun _ => ?_⟩) (fun p hp hy => ⟨fun _ => ?_, fun q => absurd q (by decide)⟩)⟩))
  · rw [if_pos (by rcases out_lt (n := 2) (by decide) h with c | c; exact Or.inl c; exact Or.inr (Or.inl c))] at k0
    exact k0
  · rw [if_pos (by rcases out_lt (n := 1) (by decide) h with c | c; exact Or.inr (Or.inr (Or.inl c)); exact Or.inr (Or.inr (Or.inr c)))] at k0
    exact k0
  · subst hx
    subst hy
    refine y_now hR hW hm (fun σ1 W v _ hR1 h1 => y_heapOf hR1 hW h1.2.2.2 ?_)
    have hc := uv_c hW hm h1
    have hcb := cnV_b hW hm gtW0 h1.2.2.1
    obtain ⟨g1, g2, g3, g4, g5⟩ := h1.2.2.2
    have hmx := mxI_b (v := v) (B := 8 * W) (by omega) (fun a => (g5 a).2) (D 0 0)
    have hmy : ∀ n, 0 ≤ mxI (cnV D hb m (D 0 1) 0 none).2 n := by
      intro n
      induction n with
      | zero => exact Int.le_refl _
      | succ n ih => show 0 ≤ max _ _; have := hcb.2 n; omega
    rw [g1]
    refine y_part ⟨hmx.1, by omega⟩ ⟨g3, g4⟩ (show p ≤ 1 by omega) ?_
    have := k σ1 hR1
    have i1 := in_lt (n := 2) (m := m) (by decide) hm
    have i2 := in_lt (n := 1) (m := p) (by decide) hp
    rw [if_neg (fun c => by rcases c with c | c | c | c; exact i1.1 c; exact i1.2 c; exact i2.1 c; exact i2.2 c), nI_toInt (by omega), nI_toInt (by omega), Int.toNat_natCast, Int.toNat_natCast] at this
    rw [lwZ_inv p hc.1 hc.2.1 hmx.1 (hmy _) (mxI_inv hc _)]
    exact this
theorem y_late {Φ : Int32 → hv_S → Prop} (hR : RM D hb It σ) (hW : hWF D) (x : Int32) (k : ∀ σ', RM D hb It σ' → Φ (anM (fun m => oR (late D hb m)) x) σ') : hv_CI l (hv_e2 e) 13 m_X10_late [.ref 60, .int x] σ Φ := by
  have hw := hW.2.1
  refine B_X10_late _ (y_isMatter x (fun h => ⟨fun q => absurd rfl q, fun _ => ?_⟩) (fun m hm hx => ⟨fun _ => ?_, fun q => absurd q (by decide)⟩))
  · rw [anM_out h] at k; exact k σ hR
  · subst hx
    rw [anM_in hm] at k
    have hy := yeM_lt D m
    refine y_now hR hW hm (fun σ1 W v _ hR1 h1 => y_thinks hR1 hW hm (y_decC hR1 hW hm h1 (by omega) ?_))
    unfold late at k
    generalize hso : dcC D hb m (D 0 1) 0 (yeM D m) = so at *
    suffices ∀ d σ', D 0 1 + d ≤ 99 → RM D hb It σ' → (∀ σ', RM D hb It σ' → Φ (oR (ltR D hb m so d)) σ') → L_X10_late_32 l e Φ (nI m) (bI so) (nI (D 0 1 + d)) σ' by
      have h99 := this (99 - D 0 1) σ1 (by omega) hR1 k
      rw [show D 0 1 + (99 - D 0 1) = 99 by omega] at h99
      exact h99
    intro d
    induction d with
    | zero =>
      intro σ' _ hR' k
      refine B_X10_late_32 _ _ _ ⟨fun q => absurd q (by rw [hR'.1.2.1]; exact nI_nlt (Nat.le_refl _) (by omega)), fun _ => y_findVoices hR' hW hm (by omega) (fun σ2 W2 v2 _ hR2 h2 => y_thinks hR2 hW hm (y_decC hR2 hW hm h2 (by omega) ?_))⟩
      rw [bI_eq, Nat.add_zero, hso]
      refine ⟨fun _ => B_X10_late_32 _ _ _ ⟨fun _ => k σ2 hR2, fun q => absurd ?_ q⟩, fun q => absurd rfl q⟩
      rw [hR2.1.2.1]
      generalize D 0 1 = t at hw
      have : ∀ t, t ≤ 99 → nI t + (-1) < nI t := by decide
      exact this t hw
    | succ d ih =>
      intro σ' hd hR' k
      have eS : ltR D hb m so (d + 1) = if dcC D hb m (D 0 1 + (d + 1)) 0 (yeM D m) ≠ so then some (D 0 1 + (d + 1)) else ltR D hb m so d := rfl
      refine B_X10_late_32 _ _ _ ⟨fun q => absurd q (by rw [hR'.1.2.1]; exact nI_nlt (by omega) (by omega)), fun _ => y_findVoices hR' hW hm (by omega) (fun σ2 W2 v2 _ hR2 h2 => y_thinks hR2 hW hm (y_decC hR2 hW hm h2 (by omega) ?_))⟩
      rw [bI_eq]
      refine ⟨fun q => ?_, fun q => ?_⟩
      · rw [show D 0 1 + (d + 1) = (D 0 1 + d) + 1 by omega, nI_m1]
        refine ih σ2 (by omega) hR2 (fun σ3 hR3 => ?_)
        have := k σ3 hR3
        rw [eS, if_neg (fun c => c q)] at this
        exact this
      · have := k σ2 hR2
        rw [eS, if_pos q] at this
        exact this
theorem y_sub2 {i a L : Nat} (hi : i < 2 ^ 31) (ha : a < 8) (hL : L ≤ 60) : nI i ≤ nI L - 2 * nI a - 2 ↔ i + 2 * a + 2 ≤ L := by
  have e1 : (2 : Int32) * nI a = nI (2 * a) := by rw [show (2 : Int32) = nI 2 from rfl, pk_mul]
  have e : (nI L - nI (2 * a) - 2).toInt = (L : Int) - 2 * a - 2 := by
    rw [Int32.toInt_sub, Int32.toInt_sub, nI_toInt (by omega), nI_toInt (by omega), show (2 : Int32).toInt = 2 by decide]
    have h1 : ((L : Int) - ((2 * a : Nat) : Int)).bmod (2 ^ 32) = (L : Int) - ((2 * a : Nat) : Int) := Int.bmod_eq_of_le (by omega) (by omega)
    rw [h1]
    have h2 : ((L : Int) - ((2 * a : Nat) : Int) - 2).bmod (2 ^ 32) = (L : Int) - ((2 * a : Nat) : Int) - 2 := Int.bmod_eq_of_le (by omega) (by omega)
    rw [h2]; omega
  rw [e1, Int32.le_iff_toInt_le, e, nI_toInt hi]; omega
theorem y_table {Φ : Int32 → hv_S → Prop} (hR : RM D hb It σ) (hW : hWF D) (x y z : Int32) (kk : ∀ σ', RM D hb It σ' → Φ (tbA D hb It x y z) σ') : hv_CI l (hv_e2 e) 13 m_X10_table [.ref 60, .int x, .int y, .int z] σ Φ := by
  have hn := hW.1
  unfold tbA at kk
  have loop : ∀ t m, t < 6 → m < 3 → ∀ σ1 W v, RM D hb It σ1 → uvI D (GX D hb m (D 0 1) 0 none) σ1 W v → Φ (nI (tbS D hb It m t y.toInt (D 0 0) 0)) σ1 → L_X10_table_52 l e Φ (nI t) y 0 σ1 := fun t m ht hm σ1 W v hR1 h1 hk => by
    obtain ⟨h5, h60, h0⟩ := hW.2.2.2.2.2.2.2.2.2.2.2.2.2 t ht
    suffices ∀ d k, k + d = D 0 0 → Φ (nI (tbS D hb It m t y.toInt d k)) σ1 → L_X10_table_52 l e Φ (nI t) y (nI k) σ1 by exact this (D 0 0) 0 (by omega) hk
    intro d
    induction d with
    | zero =>
      intro k hkd hΦ
      have hkn : k = D 0 0 := by omega
      refine B_X10_table_52 _ _ _ ⟨fun _ => ?_, fun q => absurd (by rw [hR1.1.1, hkn]; exact nI_le (Nat.le_refl _) (by omega)) q⟩
      rw [hR1.1.1, ← hkn]
      exact hΦ
    | succ d ih =>
      intro k hkd hΦ
      have eT : tbS D hb It m t y.toInt (d + 1) k = if y.toInt < 0 ∨ (D 11 t : Int) ≤ y.toInt + 2 * k + 1 then 100 + k else
        if It t (y.toInt.toNat + 2 * k) ≠ lZ (lwZ ((cnV D hb m (D 0 1) 0 none).2 k) (cnV D hb m (D 0 1) 0 none).1 0) ∨ It t (y.toInt.toNat + 2 * k + 1) ≠ lZ (lwZ ((cnV D hb m (D 0 1) 0 none).2 k) (cnV D hb m (D 0 1) 0 none).1 1) then k else tbS D hb It m t y.toInt d (k + 1) := rfl
      rw [eT] at hΦ
      have e100 : (100 : Int32) + nI k = nI (100 + k) := nI_add 100 k
      refine B_X10_table_52 _ _ _ ⟨fun q => absurd q (by rw [hR1.1.1]; exact nI_ge (by omega) (by omega)), fun _ => ?_⟩
      have hv : vp_in (nI t) 6 := vp_in_nI ht (by decide)
      have hkv : vp_in (nI k) 8 := vp_in_nI (by omega) (by decide)
      rw [e100, nI_clamp (by omega), (hR1.2.2.2.2.2.1 t ht).1, (hR1.2.2.2.2.2.1 t ht).2, (srt_0 h5).2, nI_1]
      refine ⟨hv, fun q => ?_, fun q1 => ⟨fun q => ?_, fun q2 => ⟨hv, fun q3 => ?_, fun q3 => ?_⟩⟩⟩
      · rw [if_pos (by have := h0 q; omega)] at hΦ; exact hΦ
      · have := Int32.lt_iff_toInt_lt.mp q
        rw [show (0 : Int32).toInt = 0 by decide] at this
        rw [if_pos (Or.inl this)] at hΦ; exact hΦ
      · rcases i32_cases y with c | ⟨i, hi, rfl⟩
        · exact absurd c q2
        · have q4 := (y_sub2 hi (by omega) h60).mp q3
          rw [nI_toInt hi] at hΦ ih
          rw [if_neg (by omega), Int.toNat_natCast] at hΦ
          have e2 : 60 * nI t + nI i + 2 * nI k = nI (60 * t + i + 2 * k) := by rw [y60, show (2 : Int32) = nI 2 from rfl, pk_mul, nI_add]
          have e3 : nI (60 * t + i + 2 * k) + 1 = nI (60 * t + i + 2 * k + 1) := nI_1 _
          have i1 : σ1.2.1 82 (60 * t + i + 2 * k) = It t (i + 2 * k) := by
            rw [← hR1.2.2.2.2.2.2 t (i + 2 * k) ht (by omega)]; exact congrArg (σ1.2.1 82) (by omega)
          have i2 : σ1.2.1 82 (60 * t + i + 2 * k + 1) = It t (i + 2 * k + 1) := by
            rw [← hR1.2.2.2.2.2.2 t (i + 2 * k + 1) ht (by omega)]; exact congrArg (σ1.2.1 82) (by omega)
          rw [e2, e3, nI_clamp (by omega), nI_clamp (by omega), nI_clamp (by omega)]
          refine ⟨vp_in_nI (by omega) (by decide), hkv, y_partC (p := 0) hW hm h1 (by omega) (by decide) ?_⟩
          rw [i1]
          refine ⟨fun q5 => ?_, fun q5 => ⟨vp_in_nI (by omega) (by decide), hkv, y_partC (p := 1) hW hm h1 (by omega) (by decide) ?_⟩⟩
          · rw [if_pos (Or.inl q5)] at hΦ; exact hΦ
          · rw [i2]
            refine ⟨fun q6 => ?_, fun q6 => ?_⟩
            · rw [if_neg (fun c => c.elim (fun c => c q5) (fun c => c q6))] at hΦ
              exact ih (k + 1) (by omega) hΦ
            · rw [if_pos (Or.inr q6)] at hΦ; exact hΦ
      · rcases i32_cases y with c | ⟨i, hi, rfl⟩
        · exact absurd c q2
        · rw [y_sub2 hi (by omega) h60] at q3
          rw [nI_toInt hi, if_pos (Or.inr (by omega))] at hΦ
          exact hΦ
  refine B_X10_table _ _ _ (y_isTape x (fun h => ⟨fun _ => ?_, fun q => absurd rfl q⟩) (fun t ht hx => ⟨fun q => absurd q (by decide), fun _ => y_isMatter z (fun h => ⟨fun q => absurd rfl q, fun _ => ?_⟩) (fun m hm hz => ⟨fun _ => ?_, fun q => absurd q (by decide)⟩)⟩))
  · rw [an1_out (by decide) h] at kk; exact kk σ hR
  · rw [hx, an1_in (by decide) ht, an1_out (by decide) h] at kk; exact kk σ hR
  · rw [hx, an1_in (by decide) ht, hz, an1_in (by decide) hm] at kk
    subst hx
    subst hz
    have h5 := (hW.2.2.2.2.2.2.2.2.2.2.2.2.2 t ht).1
    have hv : vp_in (nI t) 6 := vp_in_nI ht (by decide)
    rw [nI_clamp (by omega), (hR.2.2.2.2.2.1 t ht).1, (srt_0 h5).2, show nI (D 10 t) - 1 = 3 ↔ D 10 t = 4 from srt_k (k := 3) h5 (by decide)]
    refine ⟨hv, fun q => ?_, fun q1 => ⟨hv, fun q => ?_, fun q2 => ?_⟩⟩
    · rw [if_neg (fun c => c.1 q)] at kk
      exact y_now hR hW hm (fun σ1 W v _ hR1 h1 => loop t m ht hm σ1 W v hR1 h1 (kk σ1 hR1))
    · rw [if_neg (fun c => c.2 q)] at kk
      exact y_now hR hW hm (fun σ1 W v _ hR1 h1 => loop t m ht hm σ1 W v hR1 h1 (kk σ1 hR1))
    · rw [if_pos ⟨q1, q2⟩] at kk; exact kk σ hR
end QA
