-- THE REFERENCE: the best mending
theorem me_skip {D : hD} {hb : hB} {m h n A s z : Nat} {f : Option Nat} {g : Int} (hc : ¬ (mns s A = 0 ∧ pop 8 s ≤ n ∧ hpC D hb m s h = true ∧ (g < chC D hb m s none ∨ chC D hb m s none = g ∧ pop 8 s < z))) : meS D hb m h n A (A + 1 - s) s f z g = meS D hb m h n A (A + 1 - (s + 1)) (s + 1) f z g := by
  by_cases c : s ≤ A
  · rw [show A + 1 - s = (A - s) + 1 by omega, show A + 1 - (s + 1) = A - s by omega]
    exact if_neg hc
  · rw [show A + 1 - s = 0 by omega, show A + 1 - (s + 1) = 0 by omega]; rfl
theorem me_take {D : hD} {hb : hB} {m h n A s z : Nat} {f : Option Nat} {g : Int} (hs : s ≤ A) (hc : mns s A = 0 ∧ pop 8 s ≤ n ∧ hpC D hb m s h = true ∧ (g < chC D hb m s none ∨ chC D hb m s none = g ∧ pop 8 s < z)) : meS D hb m h n A (A + 1 - s) s f z g = meS D hb m h n A (A + 1 - (s + 1)) (s + 1) (some s) (pop 8 s) (chC D hb m s none) := by
  rw [show A + 1 - s = (A - s) + 1 by omega, show A + 1 - (s + 1) = A - s by omega]
  exact if_pos hc
theorem cn_mov {D : hD} {hb : hB} {m s : Nat} : cnV D hb m (D 0 1) s none = cnV D hb m (D 0 1) (s &&& msk (mov D m (D 0 1)) (D 0 0)) none := by
  refine cnV_congr rfl rfl rfl (fun a ha => ?_)
  show ehS s (ehD D m (D 0 1)) a = ehS (s &&& msk (mov D m (D 0 1)) (D 0 0)) (ehD D m (D 0 1)) a
  unfold ehS
  rw [Nat.testBit_and, msk_bit]
  by_cases c : s.testBit a = true
  · rw [if_pos c]
    cases q : mov D m (D 0 1) a with
    | true => rw [if_pos (by simp [c, ha])]
    | false =>
      rw [if_neg (by simp)]
      unfold ehD
      rw [if_neg (of_decide_eq_false q)]
  · rw [if_neg c, if_neg (by simp [c])]
theorem heap_iff {W C : Int} {v c : Nat → Int} (hp : prp W v C c) (h n : Nat) : mxI v n ≤ h * W ↔ mxI c n ≤ h * C := by
  have := prp_lt (W := W) (W' := C) (p := h * W) (q := mxI v n) (p' := h * C) (q' := mxI c n) hp.1 hp.2.1 (by grind) (mxI_inv hp n)
  omega
section ME
variable {l : Launch} {e : hv_Ev} {σ : hv_S} {D : hD} {hb : hB} {It : hT}
theorem y_mend {Φ : Int32 → hv_S → Prop} (hR : RM D hb It σ) (hW : hWF D) (x y z : Int32) (k : ∀ σ', RM D hb It σ' → Φ (mdA D hb x y z) σ') : hv_CI l (hv_e2 e) 13 m_X10_mend [.ref 60, .int x, .int y, .int z] σ Φ := by
  have hn := hW.1
  have p8 : 2 ^ D 0 0 ≤ 2 ^ 8 := Nat.pow_le_pow_right (by decide) hn
  have k0 := k σ hR
  unfold mdA at k k0
  refine B_X10_mend _ _ _ (y_isMatter x (fun h => ⟨fun q => absurd rfl q, fun _ => ?_⟩) (fun m hm hx => ⟨fun _ => y_inN (n := 9) (by decide) (by decide) (fun q => ⟨fun _ => ?_, fun z => absurd rfl z⟩) (fun h hh hy => ⟨fun z => absurd z (by decide), fun _ => y_inN (n := 9) (by decide) (by decide) (fun q => ⟨fun z => absurd rfl z, fun _ => ?_⟩) (fun n hn9 hz => ⟨fun _ => ?_, fun z => absurd z (by decide)⟩)⟩), fun q => absurd q (by decide)⟩))
  · rw [if_pos (show x < 0 ∨ 2 < x from out_lt (n := 2) (by decide) h)] at k0
    exact k0
  · subst hx
    have i1 := in_lt (n := 2) (m := m) (by decide) hm
    rw [if_neg (show ¬ (nI m < 0 ∨ 2 < nI m) from fun c => c.elim i1.1 i1.2), if_pos (by rcases out_lt (n := 8) (by decide) q with c | c; exact Or.inl c; exact Or.inr (Or.inl c))] at k0
    exact k0
  · subst hx
    have i1 := in_lt (n := 2) (m := m) (by decide) hm
    rw [if_neg (show ¬ (nI m < 0 ∨ 2 < nI m) from fun c => c.elim i1.1 i1.2), if_pos (by rcases out_lt (n := 8) (by decide) q with c | c; exact Or.inr (Or.inr (Or.inl c)); exact Or.inr (Or.inr (Or.inr c)))] at k0
    exact k0
  · subst hx
    subst hy
    subst hz
    have i1 := in_lt (n := 2) (m := m) (by decide) hm
    have i2 := in_lt (n := 8) (m := h) (by decide) hh
    have i3 := in_lt (n := 8) (m := n) (by decide) hn9
    rw [if_neg (show ¬ (nI m < 0 ∨ 2 < nI m) from fun c => c.elim i1.1 i1.2), if_neg (fun c => by rcases c with c | c | c | c; exact i2.1 c; exact i2.2 c; exact i3.1 c; exact i3.2 c), nI_toInt (by omega), nI_toInt (by omega), nI_toInt (by omega), Int.toNat_natCast, Int.toNat_natCast, Int.toNat_natCast] at k
    clear k0
    unfold mend at k
    obtain ⟨A, eA⟩ : ∃ A, A = msk (mov D m (D 0 1)) (D 0 0) := ⟨_, rfl⟩
    have hcn : ∀ s, cnV D hb m (D 0 1) s none = cnV D hb m (D 0 1) (s &&& A) none := fun s => by rw [eA]; exact cn_mov
    have hA : A < 2 ^ D 0 0 := by rw [eA]; exact msk_lt _ _
    rw [← eA] at k
    suffices ∀ d s σ' f z g most of, s + d = 2 ^ D 0 0 → RM D hb It σ' → (f = none → g = -1) → (∀ w, f = some w → z = pop 8 w ∧ w < s ∧ (0 ≤ most ∧ most ≤ 100000000) ∧ (0 < of ∧ of ≤ 100000000) ∧ most * 100000000 = g * of) →
        (∀ t, t < s → mns t A = 0 → pop 8 t ≤ n → hpC D hb m t h = true → chC D hb m t none < g ∨ chC D hb m t none = g ∧ z ≤ pop 8 t) → (∀ σ', RM D hb It σ' → Φ (oR (meS D hb m h n A (A + 1 - s) s f z g)) σ') → L_X10_mend_48 l e Φ (nI m) (nI h) (nI n) (oR f) (lZ most) (lZ of) (nI s) σ' by
      exact this (2 ^ D 0 0) 0 σ none 0 (-1) 0 1 (by omega) hR (fun _ => rfl) (fun w hw => absurd hw (by simp)) (fun t ht => absurd ht (Nat.not_lt_zero t)) k
    intro d
    induction d with
    | zero =>
      intro s σ' f z g most of hs hR' _ _ _ k
      have hs2 : s = 2 ^ D 0 0 := by omega
      rw [show A + 1 - s = 0 by omega] at k
      exact B_X10_mend_48 _ _ _ _ _ _ _ ⟨fun _ => k σ' hR', fun q => absurd (by rw [y_two hR' hW, hs2]; exact nI_le (Nat.le_refl _) (by omega)) q⟩
    | succ d ih =>
      intro s σ' f z g most of hs hR' hf0 hf hJ k
      have hs' : s < 2 ^ D 0 0 := by omega
      have ps := pop_le s 8
      -- it isn't taken
      have skip : ¬ (mns s A = 0 ∧ pop 8 s ≤ n ∧ hpC D hb m s h = true ∧ (g < chC D hb m s none ∨ chC D hb m s none = g ∧ pop 8 s < z)) → ∀ σ', RM D hb It σ' → L_X10_mend_48 l e Φ (nI m) (nI h) (nI n) (oR f) (lZ most) (lZ of) (nI s + 1) σ' := fun q σ' hR' => by
        rw [me_skip q] at k
        rw [nI_1]
        refine ih (s + 1) σ' f z g most of (by omega) hR' hf0 (fun w hw => by obtain ⟨a1, a2, a3⟩ := hf w hw; exact ⟨a1, by omega, a3⟩) (fun t ht t1 t2 t3 => ?_) k
        by_cases c : t = s
        · subst c
          by_cases c2 : chC D hb m t none < g
          · exact Or.inl c2
          · by_cases c3 : g < chC D hb m t none
            · exact absurd ⟨t1, t2, t3, Or.inl c3⟩ q
            · by_cases c4 : pop 8 t < z
              · exact absurd ⟨t1, t2, t3, Or.inr ⟨by omega, c4⟩⟩ q
              · exact Or.inr ⟨by omega, by omega⟩
        · exact hJ t (by omega) t1 t2 t3
      refine B_X10_mend_48 _ _ _ _ _ _ _ ⟨fun q => absurd q (by rw [y_two hR' hW]; exact nI_ge (by omega) (by omega)), fun _ => y_ones (by omega) ?_⟩
      rw [nI_leI (by omega) (by omega)]
      refine ⟨fun q1 => y_ifSelf hR' hW hm (by omega) (fun σ1 W v hR1 hv1 hp1 => y_heapOf hR1 hW hv1 ?_), fun q => skip (fun c => q c.2.1) σ' hR'⟩
      obtain ⟨g1, g2, g3, g4, g5⟩ := hv1
      have hv1 : vmI σ1 (D 0 0) W v := ⟨g1, g2, g3, g4, g5⟩
      have hmx := mxI_b (v := v) (B := 8 * W) (by omega) (fun a => (g5 a).2) (D 0 0)
      have hhW : (0 : Int) ≤ (h : Int) * W ∧ (h : Int) * W ≤ 8 * W := ⟨Int.mul_nonneg (by omega) (by omega), Int.mul_le_mul_of_nonneg_right (by omega) (by omega)⟩
      rw [g1, nI_lZ (by omega), lZ_mul, lZ_le (by omega) (by omega) (by omega) (by omega)]
      have hhp : hpC D hb m s h = true ↔ mxI v (D 0 0) ≤ (h : Int) * W := by
        rw [heap_iff hp1 h (D 0 0)]; unfold hpC; exact decide_eq_true_iff
      refine ⟨fun q2 => y_findRight hR1 hW hm hv1 (fun σ2 _ hR2 hg2 => ?_), fun q => by have := skip (fun c => q (hhp.mp c.2.2.1)) σ1 hR1; exact this⟩
      have q2' := hhp.mpr q2
      obtain ⟨c1, c2, c3, c4, c5⟩ := chn_cha hW hm hp1
      have eC : cha D m (cnV D hb m (D 0 1) s none).2 = chC D hb m s none := rfl
      rw [eC] at c1
      have hch0 := (chC_b (hb := hb) (S := s) (gt := none) hW hm).1
      generalize hx : chn D m v = lk at *
      generalize hT : (10 : Int) ^ pop 8 (vts D v) = tn at *
      obtain ⟨r1, r2⟩ := hg2
      rw [hx] at r1
      rw [hT] at r2
      -- it is taken
      have take : (f = none ∨ g < chC D hb m s none ∨ ¬ chC D hb m s none < g ∧ pop 8 s < z) → L_X10_mend_174 l e Φ (nI m) (nI h) (nI n) (oR f) (lZ most) (lZ of) (nI s) σ2 := fun q => by
        have hcond : g < chC D hb m s none ∨ chC D hb m s none = g ∧ pop 8 s < z := by
          rcases q with q | q | q
          · have := hf0 q; omega
          · exact Or.inl q
          · by_cases c : g < chC D hb m s none
            · exact Or.inl c
            · exact Or.inr ⟨by omega, q.2⟩
        have hms : mns s A = 0 := by
          by_cases c : mns s A = 0
          · exact c
          · exfalso
            have hne : s &&& A ≠ s := fun z => c ((mns0 (by omega) _).mpr (sub_and.mp z))
            have hle : s &&& A ≤ s := Nat.and_le_left
            have hm2 : mns (s &&& A) A = 0 := (mns0 (by omega) _).mpr (fun i hi => by rw [Nat.testBit_and, Bool.and_eq_true] at hi; exact hi.2)
            have hpl : pop 8 (s &&& A) < pop 8 s := by
              obtain ⟨i, hi, hb2⟩ := ne_bit (n := 8) (S := s &&& A) (T := s) (by omega) (by omega) hne
              refine pop_lt 8 (fun j _ hj => by rw [Nat.testBit_and, Bool.and_eq_true] at hj; exact hj.1) ⟨i, hi, ?_, ?_⟩
              · cases c3 : s.testBit i with
                | true => rfl
                | false => exact absurd (by rw [Nat.testBit_and, c3]; rfl) hb2
              · cases c3 : (s &&& A).testBit i with
                | false => rfl
                | true =>
                  have c4 := c3
                  rw [Nat.testBit_and, Bool.and_eq_true] at c4
                  exact absurd (c3.trans c4.1.symm) hb2
            have e1 : hpC D hb m (s &&& A) h = hpC D hb m s h := by unfold hpC; rw [← hcn s]
            have e2 : chC D hb m (s &&& A) none = chC D hb m s none := by unfold chC; rw [← hcn s]
            have := hJ (s &&& A) (by omega) hm2 (by omega) (by rw [e1]; exact q2')
            rw [e2] at this
            omega
        have hsA : s ≤ A := sub_le (by omega) hms
        rw [me_take hsA ⟨hms, q1, q2', hcond⟩] at k
        refine B_X10_mend_174 _ _ _ _ _ _ _ ?_
        rw [r1, r2, nI_1]
        refine ih (s + 1) σ2 (some s) (pop 8 s) (chC D hb m s none) lk tn (by omega) hR2 (fun c => absurd c (by simp)) (fun w hw => by cases hw; exact ⟨rfl, by omega, ⟨c4, c5⟩, ⟨c2, c3⟩, c1⟩) (fun t ht t1 t2 t3 => ?_) k
        by_cases c : t = s
        · subst c; exact Or.inr ⟨rfl, Nat.le_refl _⟩
        · have := hJ t (by omega) t1 t2 t3
          omega
      have skip2 : ¬ (g < chC D hb m s none ∨ chC D hb m s none = g ∧ pop 8 s < z) → L_X10_mend_178 l e Φ (nI m) (nI h) (nI n) (oR f) (lZ most) (lZ of) (nI s) σ2 := fun q => B_X10_mend_178 _ _ _ _ _ _ _ (skip (fun c => q c.2.2.2) σ2 hR2)
      cases f with
      | none => exact ⟨fun _ => take (Or.inl rfl), fun z => absurd (by decide) z⟩
      | some w =>
        obtain ⟨f1, f2, f3, f4, f5⟩ := hf w rfl
        have pw := pop_le w 8
        refine ⟨fun c => absurd c (nI_pos (by omega)), fun _ => ?_⟩
        rw [r1, r2]
        refine y_isLess ⟨f3.1, by omega⟩ ⟨f4.1, by omega⟩ ⟨c4, by omega⟩ ⟨c2, by omega⟩ ?_
        rw [decide_eq_decide.mpr (lik_lt f4.1 c2 f5 c1), ne_eq, bI_0]
        refine ⟨fun q => take (Or.inr (Or.inl (by simpa using q))), fun q => ?_⟩
        have q3 : ¬ g < chC D hb m s none := of_decide_eq_false q
        rw [r1, r2]
        refine y_isLess ⟨c4, by omega⟩ ⟨c2, by omega⟩ ⟨f3.1, by omega⟩ ⟨f4.1, by omega⟩ ?_
        rw [decide_eq_decide.mpr (lik_lt c2 f4.1 c1 f5), ne_eq, bI_0]
        refine ⟨fun q4 => ?_, fun q4 => y_ones (by omega) (y_ones (S := w) (by omega) ?_)⟩
        · have q5 : chC D hb m s none < g := by simpa using q4
          exact skip2 (fun c => by omega)
        · have q5 : ¬ chC D hb m s none < g := of_decide_eq_false q4
          rw [nI_leI (by omega) (by omega)]
          refine ⟨fun c => skip2 (fun c2 => by omega), fun c => take (Or.inr (Or.inr ⟨q5, by omega⟩))⟩
end ME
