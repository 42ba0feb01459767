-- THE REFERENCE: deeds
theorem nmM_lt {v : Nat} (h : v < 9) : nmM v = nI v := if_neg (by omega)
theorem RM.hands {D D' : hD} {hb : hB} {It : hT} {σ σ' : hv_S} (h : RM D hb It σ) (e : ∀ i, (i = 0 ∨ 6 ≤ i) → ∀ j, D' i j = D i j) (hs : ∀ k, (k < 61 ∨ 65 < k) → ∀ j, σ'.1 k j = σ.1 k j) (h2 : σ'.2 = σ.2)
    (hh : ∀ m a, m < 3 → a < D 0 0 → σ'.1 61 (8 * m + a) = nI (D' 1 (8 * m + a)) ∧ σ'.1 62 (8 * m + a) = nI (D' 2 (8 * m + a)) ∧ σ'.1 63 (8 * m + a) = nmM (D' 3 (8 * m + a)) ∧ σ'.1 64 (8 * m + a) = nmM (D' 4 (8 * m + a)) ∧ σ'.1 65 (8 * m + a) = nI (D' 5 (8 * m + a))) : RM D' hb It σ' := by
  obtain ⟨⟨a1, a2, a3, a4, a5⟩, ⟨b1, b2⟩, ⟨c1, c2, c3, c4, c5, c6⟩, hB, ⟨f1, f2⟩, ⟨g1, g2⟩⟩ := h
  have e0 := e 0 (Or.inl rfl)
  have e6 := e 6 (Or.inr (by decide))
  have e7 := e 7 (Or.inr (by decide))
  have e8 := e 8 (Or.inr (by decide))
  have e9 := e 9 (Or.inr (by decide))
  have e10 := e 10 (Or.inr (by decide))
  have e11 := e 11 (Or.inr (by decide))
  have s60 := hs 60 (by decide)
  refine ⟨⟨by rw [s60, e0]; exact a1, by rw [s60, e0]; exact a2, fun c hc => by rw [hs 67 (by decide), e7]; exact a3 c hc, fun c hc => by rw [hs 66 (by decide)]; exact a4 c hc, fun m a hm ha => ?_⟩, ⟨by rw [s60, e0]; exact b1, fun k hk => by rw [hs 68 (by decide), e8]; exact b2 k (by rw [← e0]; exact hk)⟩, ⟨by rw [s60, e0]; exact c1, by rw [s60, e0]; exact c2, by rw [s60, e0]; exact c3, by rw [s60, e0]; exact c4, by rw [s60, e0]; exact c5, ?_⟩, ⟨fun j hj => by rw [hs 70 (by decide)]; exact hB.1 j hj, ?_⟩, ⟨by rw [s60, e9]; exact f1, fun k hk hk2 => by rw [hs 79 (by decide), e9]; exact f2 k (by rw [← e9]; exact hk) hk2⟩, ⟨fun t ht => by rw [hs 80 (by decide), hs 81 (by decide), e10, e11]; exact g1 t ht, fun t i ht hi => by rw [h2]; exact g2 t i ht (by rw [← e11]; exact hi)⟩⟩
  · rw [e0] at ha
    obtain ⟨w1, w2, w3, w4, w5⟩ := hh m a hm ha
    exact ⟨by rw [hs 66 (by decide), e6]; exact (a5 m a hm ha).1, w1, w2, w3, w4, w5⟩
  · rw [e0]
    rcases c6 with c6 | ⟨c7, T, n, s, d1, d2, d3, d4, d5⟩
    · exact Or.inl c6
    · exact Or.inr ⟨c7, T, n, s, d1, d2, by rw [hs 69 (by decide)]; exact d3, fun k hk => by rw [hs 68 (by decide)]; exact d4 k hk, d5⟩
  · rcases hB.2 with c | ⟨c, c71⟩
    · exact Or.inl (by rw [s60]; exact c)
    · refine Or.inr ⟨by rw [s60]; exact c, fun m a b hm ha hb' => ?_⟩
      rw [e0] at ha hb'
      rw [hs 71 (by decide), c71 m a b hm ha hb']
      unfold bar
      rw [e6, e6]
/-- nothing but hands -/
def HE (σ σ' : hv_S) : Prop := σ'.2 = σ.2 ∧ ∀ k, (k < 61 ∨ 65 < k) → ∀ j, σ'.1 k j = σ.1 k j
section RD
variable {l : Launch} {e : hv_Ev} {σ : hv_S} {D : hD} {hb : hB} {It : hT}
theorem y_put {Φ : hv_S → Prop} {m a k f g x : Nat} (hR : RM D hb It σ) (hn : D 0 0 ≤ 8) (hm : m < 3) (ha : a < D 0 0) (kk : ∀ σ', HE σ σ' → RM (rnD D (8 * m + a) k f g x) hb It σ' → Φ σ') :
    hv_CV l (hv_e2 e) 0 m_X10_put [.ref 60, .int (nI (8 * m + a)), .int (nI k), .int (nmM f), .int (nmM g), .int (nI x)] σ Φ := by
  have hv : vp_in (nI (8 * m + a)) 24 := vp_in_nI (by omega) (by decide)
  refine B_X10_put _ _ _ _ _ ⟨hv, hv, hv, hv, hv, ?_⟩
  rw [nI_clamp (by omega)]
  obtain ⟨σ', hσ⟩ : ∃ σ', σ' = hv_ui (hv_ui (hv_ui (hv_ui (hv_ui σ 61 (8 * m + a) (nI k)) 62 (8 * m + a) 100) 63 (8 * m + a) (nmM f)) 64 (8 * m + a) (nmM g)) 65 (8 * m + a) (nI x) := ⟨_, rfl⟩
  rw [← hσ]
  have ho : ∀ p, (p < 61 ∨ 65 < p) → ∀ j, σ'.1 p j = σ.1 p j := fun p hp j => by
    rw [hσ]; simp only [ui_1, show p ≠ 61 by omega, show p ≠ 62 by omega, show p ≠ 63 by omega, show p ≠ 64 by omega, show p ≠ 65 by omega, false_and, if_false]
  have h2 : σ'.2 = σ.2 := by rw [hσ]; rfl
  refine kk σ' ⟨h2, ho⟩ (hR.hands (fun i hi j => rn_n D _ _ _ _ _ hi j) ho h2 (fun m' a' hm' ha' => ?_))
  obtain ⟨g6, g1, g2, g3, g4, g5⟩ := hR.1.2.2.2.2 m' a' hm' ha'
  by_cases q : 8 * m' + a' = 8 * m + a
  · rw [q, rn_1, rn_2, rn_3, rn_4, rn_5]
    refine ⟨?_, ?_, ?_, ?_, ?_⟩ <;> rw [hσ] <;> simp [ui_1] <;> rfl
  · rw [rn_o _ _ _ _ _ _ q, rn_o _ _ _ _ _ _ q, rn_o _ _ _ _ _ _ q, rn_o _ _ _ _ _ _ q, rn_o _ _ _ _ _ _ q]
    refine ⟨?_, ?_, ?_, ?_, ?_⟩ <;> rw [hσ] <;> simp only [ui_1, q, and_false, if_false] <;> assumption
theorem y_hand {Φ : Int32 → hv_S → Prop} (hR : RM D hb It σ) (hW : hWF D) (x y z : Int32) (k : ∀ σ', RM (hdR D x y z).2 hb It σ' → Φ (hdR D x y z).1 σ') : hv_CI l (hv_e2 e) 2 m_X10_hand [.ref 60, .int x, .int y, .int z] σ Φ := by
  have hn := hW.1
  unfold hdR at k
  refine B_X10_hand _ _ _ (y_isMember hR hW x (fun h => ⟨fun _ => ?_, fun q => absurd rfl q⟩) (fun a ha hx => ⟨fun q => absurd q (by decide), fun _ => y_isMatter y (fun h => ⟨fun q => absurd rfl q, fun _ => ?_⟩) (fun m hm hy => ⟨fun _ => ?_, fun q => absurd q (by decide)⟩)⟩))
  · rw [an1_out (by omega) h] at k; exact k σ hR
  · rw [hx, an1_in (by omega) ha, an1_out (by omega) h] at k; exact k σ hR
  · rw [hx, an1_in (by omega) ha, hy, an1_in (by omega) hm] at k
    subst hx
    subst hy
    have key : ∀ kk : Nat, z = nI kk → kk < 6 → (z = 0 ∨ z = 1 ∨ z = 5) → L_X10_hand_35 l e Φ (nI a) (nI m) z σ := fun kk hz hk hor => by
      rw [if_pos hor] at k
      refine B_X10_hand_35 _ _ _ ?_
      rw [cellM, nI_clamp (by omega), (hR.1.2.2.2.2 m a hm ha).2.1]
      rw [hz] at k ⊢
      rw [nI_toInt (by omega), Int.toNat_natCast] at k
      exact ⟨vp_in_nI (by omega) (by decide), y_put (f := 9) (g := 9) (x := 0) hR hn hm ha (fun σ' _ hR' => k σ' hR')⟩
    refine ⟨fun q => key 0 q (by decide) (Or.inl q), fun q => ⟨fun q1 => key 1 q1 (by decide) (Or.inr (Or.inl q1)), fun q1 => ⟨fun q2 => key 5 q2 (by decide) (Or.inr (Or.inr q2)), fun q2 => ?_⟩⟩⟩
    rw [if_neg (fun c => by rcases c with c | c | c; exact q c; exact q1 c; exact q2 c)] at k
    exact k σ hR
theorem y_give {Φ : Int32 → hv_S → Prop} (hR : RM D hb It σ) (hW : hWF D) (x y z : Int32) (k : ∀ σ', RM (gvR D x y z).2 hb It σ' → Φ (gvR D x y z).1 σ') : hv_CI l (hv_e2 e) 2 m_X10_give [.ref 60, .int x, .int y, .int z] σ Φ := by
  have hn := hW.1
  unfold gvR at k
  refine B_X10_give _ _ _ (y_isMember hR hW x (fun h => ⟨fun _ => ?_, fun q => absurd rfl q⟩) (fun a ha hx => ⟨fun q => absurd q (by decide), fun _ => y_isMatter y (fun h => ⟨fun _ => ?_, fun q => absurd rfl q⟩) (fun m hm hy => ⟨fun q => absurd q (by decide), fun _ => y_isMember hR hW z (fun h => ⟨fun q => absurd rfl q, fun _ => ?_⟩) (fun b hb' hz => ⟨fun _ => ⟨fun q => ?_, fun q => ?_⟩, fun q => absurd q (by decide)⟩)⟩)⟩))
  · rw [an1_out (by omega) h] at k; exact k σ hR
  · rw [hx, an1_in (by omega) ha, an1_out (by omega) h] at k; exact k σ hR
  · rw [hx, an1_in (by omega) ha, hy, an1_in (by omega) hm, an1_out (by omega) h] at k; exact k σ hR
  · rw [hx, an1_in (by omega) ha, hy, an1_in (by omega) hm, hz, an1_in (by omega) hb', if_neg (fun c => q (by rw [hx, hz, c]))] at k
    subst hx
    subst hy
    subst hz
    rw [cellM, nI_clamp (by omega), (hR.1.2.2.2.2 m a hm ha).2.1]
    have := y_put (l := l) (e := e) (Φ := Φ (nI (D 1 (8 * m + a)))) (k := 2) (f := b) (g := 9) (x := 10) hR hn hm ha (fun σ' _ hR' => k σ' hR')
    rw [nmM_lt (by omega)] at this
    exact ⟨vp_in_nI (by omega) (by decide), this⟩
  · rw [hx, an1_in (by omega) ha, hy, an1_in (by omega) hm, hz, an1_in (by omega) hb', if_pos ((nI_eq (by omega) (by omega)).mp (by rw [← hx, ← hz]; exact q))] at k
    exact k σ hR
theorem y_names {Φ : Int32 → hv_S → Prop} (hR : RM D hb It σ) (hW : hWF D) (x y z w v : Int32) (k : ∀ σ', RM (nmR D x y z w v).2 hb It σ' → Φ (nmR D x y z w v).1 σ') : hv_CI l (hv_e2 e) 2 m_X10_names [.ref 60, .int x, .int y, .int z, .int w, .int v] σ Φ := by
  have hn := hW.1
  unfold nmR at k
  refine B_X10_names _ _ _ _ _ (y_isMember hR hW x (fun h => ⟨fun _ => ?_, fun q => absurd rfl q⟩) (fun a ha hx => ⟨fun q => absurd q (by decide), fun _ => y_isMatter y (fun h => ⟨fun _ => ?_, fun q => absurd rfl q⟩) (fun m hm hy => ⟨fun q => absurd q (by decide), fun _ => y_isMember hR hW z (fun h => ⟨fun _ => ?_, fun q => absurd rfl q⟩) (fun b hb' hz => ⟨fun q => absurd q (by decide), fun _ => y_isMember hR hW w (fun h => ⟨fun q => absurd rfl q, fun _ => ?_⟩) (fun c hc hw => ⟨fun _ => ?_, fun q => absurd q (by decide)⟩)⟩)⟩)⟩))
  · rw [an1_out (by omega) h] at k; exact k σ hR
  · rw [hx, an1_in (by omega) ha, an1_out (by omega) h] at k; exact k σ hR
  · rw [hx, an1_in (by omega) ha, hy, an1_in (by omega) hm, an1_out (by omega) h] at k; exact k σ hR
  · rw [hx, an1_in (by omega) ha, hy, an1_in (by omega) hm, hz, an1_in (by omega) hb', an1_out (by omega) h] at k; exact k σ hR
  · rw [hx, an1_in (by omega) ha, hy, an1_in (by omega) hm, hz, an1_in (by omega) hb', hw, an1_in (by omega) hc] at k
    subst hx
    subst hy
    subst hz
    subst hw
    rw [nI_eq (by omega) (by omega), nI_eq (by omega) (by omega), nI_eq (by omega) (by omega)]
    refine ⟨fun q => ?_, fun q1 => ⟨fun q => ?_, fun q2 => ⟨fun q => ?_, fun q3 => ?_⟩⟩⟩
    · rw [if_pos (Or.inl q)] at k; exact k σ hR
    · rw [if_pos (Or.inr (Or.inl q))] at k; exact k σ hR
    · rw [if_pos (Or.inr (Or.inr (Or.inl q)))] at k; exact k σ hR
    · refine y_inN (n := 10) (by decide) (by decide) (fun h => ⟨fun q => absurd rfl q, fun _ => ?_⟩) (fun x hx hv => ⟨fun _ => ?_, fun q => absurd q (by decide)⟩)
      · rw [if_pos (by rcases out_le (n := 10) (by decide) h with c | c; exact Or.inr (Or.inr (Or.inr (Or.inl c))); exact Or.inr (Or.inr (Or.inr (Or.inr c))))] at k
        exact k σ hR
      · subst hv
        rw [if_neg (fun c => by rcases c with c | c | c | c | c; exact q1 c; exact q2 c; exact q3 c; exact nI_pos (by omega) c; exact nI_ge (b := 10) hx (by decide) c)] at k
        rw [cellM, nI_clamp (by omega), (hR.1.2.2.2.2 m a hm ha).2.1]
        refine ⟨vp_in_nI (by omega) (by decide), fun q6 => ⟨fun _ => ?_, fun z => absurd z q6⟩, fun q6 => ⟨fun z => absurd q6 z, fun _ => ?_⟩⟩
        · rw [if_neg q6, nI_toInt (by omega), Int.toNat_natCast] at k
          have := y_put (l := l) (e := e) (Φ := Φ (nI (D 1 (8 * m + a)))) (k := 4) (f := b) (g := c) (x := x) hR hn hm ha (fun σ' _ hR' => k σ' hR')
          rw [nmM_lt (by omega), nmM_lt (by omega)] at this
          exact this
        · rw [if_pos q6] at k
          have := y_put (l := l) (e := e) (Φ := Φ (nI (D 1 (8 * m + a)))) (k := 3) (f := b) (g := c) (x := 10) hR hn hm ha (fun σ' _ hR' => k σ' hR')
          rw [nmM_lt (by omega), nmM_lt (by omega)] at this
          exact this
theorem y_inR {Φ : Int32 → hv_S → Prop} {x hi : Int32} {n : Nat} (hn : n < 128) (hhi : nI n = hi) (k0 : (x < 0 ∨ hi < x) → Φ 0 σ) (k1 : ¬ (x < 0 ∨ hi < x) → ∀ s, s ≤ n → x = nI s → Φ 1 σ) : hv_CI l (hv_e2 e) 0 m_X10_in [.ref 60, .int x, .int 0, .int hi] σ Φ := by
  subst hhi
  refine y_in (fun q => k0 ?_) (fun q1 q2 => ?_)
  · by_cases c : x < 0
    · exact Or.inl c
    · exact Or.inr (Int32.not_le.mp (fun z => q ⟨Int32.not_lt.mp c, z⟩))
  · have hno : ¬ (x < 0 ∨ nI n < x) := fun c => c.elim (fun c => Int32.not_lt.mpr q1 c) (fun c => Int32.not_lt.mpr q2 c)
    obtain ⟨s, hs, hx⟩ := i32_in2 hno (by omega)
    exact k1 hno s hs hx
theorem y_back {Φ : Int32 → hv_S → Prop} (hR : RM D hb It σ) (hW : hWF D) (x y z : Int32) (k : ∀ σ', RM (bkR D x y z).2 hb It σ' → Φ (bkR D x y z).1 σ') : hv_CI l (hv_e2 e) 2 m_X10_back [.ref 60, .int x, .int y, .int z] σ Φ := by
  have hn := hW.1
  unfold bkR at k
  refine B_X10_back _ _ _ (y_isMember hR hW x (fun h => ⟨fun _ => ?_, fun q => absurd rfl q⟩) (fun a ha hx => ⟨fun q => absurd q (by decide), fun _ => y_isMatter y (fun h => ⟨fun q => absurd rfl q, fun _ => ?_⟩) (fun m hm hy => ⟨fun _ => y_inR (n := 100) (by decide) rfl (fun q => ⟨fun z => absurd rfl z, fun _ => ?_⟩) (fun q s hs hz => ⟨fun _ => ?_, fun z => absurd z (by decide)⟩), fun q => absurd q (by decide)⟩)⟩))
  · rw [an1_out (by omega) h] at k; exact k σ hR
  · rw [hx, an1_in (by omega) ha, an1_out (by omega) h] at k; exact k σ hR
  · rw [hx, an1_in (by omega) ha, hy, an1_in (by omega) hm, if_pos q] at k; exact k σ hR
  · rw [hx, an1_in (by omega) ha, hy, an1_in (by omega) hm, if_neg q] at k
    subst hx
    subst hy
    subst hz
    rw [nI_toInt (by omega), Int.toNat_natCast] at k
    rw [cellM, nI_clamp (by omega), (hR.1.2.2.2.2 m a hm ha).2.2.1]
    have ho : ∀ p, (p < 61 ∨ 65 < p) → ∀ j, (hv_ui σ 62 (8 * m + a) (nI s)).1 p j = σ.1 p j := fun p hp j => by rw [ui_1, if_neg (fun z => by omega)]
    refine ⟨vp_in_nI (by omega) (by decide), vp_in_nI (by omega) (by decide), k _ (hR.hands (D' := aU D 2 (8 * m + a) s) (fun i hi j => aU_n D _ _ _ (by omega) j) ho rfl (fun m' a' hm' ha' => ?_))⟩
    obtain ⟨g6, g1, g2, g3, g4, g5⟩ := hR.1.2.2.2.2 m' a' hm' ha'
    refine ⟨g1, ?_, g3, g4, g5⟩
    rw [ui_1]
    by_cases q : 8 * m' + a' = 8 * m + a
    · rw [if_pos ⟨rfl, q⟩, q, aU_s]
    · rw [if_neg (fun z => q z.2), aU_o _ _ _ _ q]; exact g2
theorem y_of {Φ : Int32 → hv_S → Prop} (hR : RM D hb It σ) (hW : hWF D) (x y z : Int32) (k : Φ (ofA D x y z) σ) : hv_CI l (hv_e2 e) 2 m_X10_of [.ref 60, .int x, .int y, .int z] σ Φ := by
  have hn := hW.1
  unfold ofA at k
  refine B_X10_of _ _ _ (y_isMember hR hW x (fun h => ⟨fun _ => ?_, fun q => absurd rfl q⟩) (fun a ha hx => ⟨fun q => absurd q (by decide), fun _ => y_isMatter y (fun h => ⟨fun q => absurd rfl q, fun _ => ?_⟩) (fun m hm hy => ⟨fun _ => ?_, fun q => absurd q (by decide)⟩)⟩))
  · rw [an1_out (by omega) h] at k; exact k
  · rw [hx, an1_in (by omega) ha, an1_out (by omega) h] at k; exact k
  · rw [hx, an1_in (by omega) ha, hy, an1_in (by omega) hm] at k
    subst hx
    subst hy
    rw [cellM, nI_clamp (by omega)]
    obtain ⟨g6, g1, g2, g3, g4, g5⟩ := hR.1.2.2.2.2 m a hm ha
    have g7 := hR.1.2.2.1 (8 * m + a) (by omega)
    have h7 := (hW.2.2.2.2.2.2.2.2.2.1 (8 * m + a) (by omega)).2.2.2.2.1
    rw [g1, g2, g3, g4, g5, g6, g7]
    have hv : vp_in (nI (8 * m + a)) 24 := vp_in_nI (by omega) (by decide)
    have hnm : ∀ f, (f = 9 ∨ f < 8) → (0 ≤ nmM f → nmX f = nmM f) ∧ (¬ 0 ≤ nmM f → nmX f = -5) := fun f hf => by
      rcases hf with rfl | hf
      · exact ⟨fun q => absurd q (by decide), fun _ => rfl⟩
      · rw [nmM_lt (by omega), nmX_lt (by omega)]
        exact ⟨fun _ => rfl, fun q => absurd (nI_pos' (by omega)) q⟩
    have hhd := hW.2.2.2.2.2.2.2.2.2.1 (8 * m + a) (by omega)
    have hf3 : D 3 (8 * m + a) = 9 ∨ D 3 (8 * m + a) < 8 := by unfold hnd at hhd; omega
    have hf4 : D 4 (8 * m + a) = 9 ∨ D 4 (8 * m + a) < 8 := by unfold hnd at hhd; omega
    refine ⟨fun q => ⟨hv, ?_⟩, fun q => ⟨hv, ?_⟩, fun q => ⟨hv, fun q2 => ⟨hv, ?_⟩, fun q2 => ?_⟩, fun q => ⟨hv, fun q2 => ⟨hv, ?_⟩, fun q2 => ?_⟩, fun q => ⟨hv, ?_⟩, fun q => ⟨hv, fun q2 => ?_, fun q2 => ?_⟩, fun q => ⟨hv, ?_⟩, fun q0 q1 q2 q3 q4 q5 q6 => ?_⟩
    · subst q; exact k
    · subst q; exact k
    · subst q
      have k : Φ (nmX (D 3 (8 * m + a))) σ := k
      rw [(hnm _ hf3).1 q2] at k; exact k
    · subst q
      have k : Φ (nmX (D 3 (8 * m + a))) σ := k
      rw [(hnm _ hf3).2 q2] at k; exact k
    · subst q
      have k : Φ (nmX (D 4 (8 * m + a))) σ := k
      rw [(hnm _ hf4).1 q2] at k; exact k
    · subst q
      have k : Φ (nmX (D 4 (8 * m + a))) σ := k
      rw [(hnm _ hf4).2 q2] at k; exact k
    · subst q; exact k
    · subst q
      have k : Φ (nI (D 7 (8 * m + a))) σ := k
      rw [q2] at k; exact k
    · subst q
      have k : Φ (nI (D 7 (8 * m + a))) σ := k
      have : D 7 (8 * m + a) = 1 := by
        rcases (show D 7 (8 * m + a) = 0 ∨ D 7 (8 * m + a) = 1 by omega) with z | z
        · exact absurd (by rw [z]; rfl) q2
        · exact z
      rw [this] at k; exact k
    · subst q; exact k
    · rw [if_neg q0, if_neg q1, if_neg q2, if_neg q3, if_neg q4, if_neg q5, if_neg q6] at k; exact k
theorem y_taken {Φ : Int32 → hv_S → Prop} (hR : RM D hb It σ) (hW : hWF D) (x y z : Int32) (k : Φ (tkA D x y z) σ) : hv_CI l (hv_e2 e) 2 m_X10_taken [.ref 60, .int x, .int y, .int z] σ Φ := by
  have hn := hW.1
  unfold tkA at k
  refine B_X10_taken _ _ _ (y_inR (n := 5) (by decide) rfl (fun q => ⟨fun z => absurd rfl z, fun _ => ?_⟩) (fun q s hs hz => ⟨fun _ => ?_, fun z => absurd z (by decide)⟩))
  · rw [if_pos q] at k; exact k
  · rw [if_neg q] at k
    refine y_isMember hR hW x (fun h => ⟨fun _ => ?_, fun q => absurd rfl q⟩) (fun a ha hx => ⟨fun q => absurd q (by decide), fun _ => y_isMatter y (fun h => ⟨fun q => absurd rfl q, fun _ => ?_⟩) (fun m hm hy => ⟨fun _ => ?_, fun q => absurd q (by decide)⟩)⟩)
    · rw [an1_out (by omega) h] at k; exact k
    · rw [hx, an1_in (by omega) ha, an1_out (by omega) h] at k; exact k
    · rw [hx, an1_in (by omega) ha, hy, an1_in (by omega) hm] at k
      subst hx
      subst hy
      have h5 := (hW.2.2.2.2.2.2.2.2.2.1 (8 * m + a) (by omega)).1
      rw [cellM, nI_clamp (by omega), (hR.1.2.2.2.2 m a hm ha).2.1]
      refine ⟨vp_in_nI (by omega) (by decide), fun q => ?_, fun q3 => ⟨fun q => ?_, fun q4 => ⟨fun q => ?_, fun q5 => ⟨fun q => ?_, fun q => ?_⟩⟩⟩⟩
      · rw [if_pos (Or.inl q)] at k; exact k
      · rw [if_pos (Or.inr (Or.inl q.symm))] at k; exact k
      · rw [if_neg (fun c => by rcases c with c | c | c; exact q3 c; exact q4 c.symm; exact q c.1)] at k; exact k
      · have := (nI_leI (b := 2) (by omega) (by decide)).mp q
        rw [if_neg (fun c => by rcases c with c | c | c; exact q3 c; exact q4 c.symm; omega)] at k; exact k
      · have : ¬ D 1 (8 * m + a) ≤ 2 := fun c => q ((nI_leI (b := 2) (by omega) (by decide)).mpr c)
        rw [if_pos (Or.inr (Or.inr ⟨q5, by omega⟩))] at k; exact k
theorem y_count {Φ : Int32 → hv_S → Prop} (hR : RM D hb It σ) (x : Int32) (k : Φ (cnA D x) σ) : hv_CI l (hv_e2 e) 0 m_X10_count [.ref 60, .int x] σ Φ := by
  unfold cnA at k
  refine B_X10_count _ ?_
  rw [hR.1.1, hR.1.2.1, hR.2.2.1.1, hR.2.1.1, hR.2.2.2.2.1.1]
  refine ⟨fun q => ?_, fun q => ?_, fun q => ?_, fun q => ?_, fun q => ?_, fun q0 q1 q2 q3 q4 => ?_⟩
  · subst q; exact k
  · subst q; exact k
  · subst q; exact k
  · subst q; exact k
  · subst q; exact k
  · rw [if_neg q0, if_neg q1, if_neg q2, if_neg q3, if_neg q4] at k; exact k
end RD
