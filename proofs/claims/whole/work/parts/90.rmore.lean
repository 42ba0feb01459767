-- THE REFERENCE: member, think, pass, feed, hall
section RB
variable {l : Launch} {e : hv_Ev} {σ : hv_S} {D : hD} {hb : hB} {It : hT}
theorem y_think {Φ : Int32 → hv_S → Prop} (hR : RM D hb It σ) (hW : hWF D) (x y z w : Int32) (hz : z = 0 ∨ z = 1) (k : ∀ σ', RM (thR D x y z w).2 hb It σ' → Φ (thR D x y z w).1 σ') : hv_CI l (hv_e2 e) 2 m_X10_think [.ref 60, .int x, .int y, .int z, .int w] σ Φ := by
  have hn := hW.1
  unfold thR at k
  refine B_X10_think _ _ _ _ (y_isMember hR hW x (fun h => ⟨fun _ => ?_, fun q => absurd rfl q⟩) (fun a ha hx => ⟨fun q => absurd q (by decide), fun _ => y_isMatter y (fun h => ⟨fun q => absurd rfl q, fun _ => ?_⟩) (fun m hm hy => ⟨fun _ => y_inR (n := 10) (by decide) rfl (fun q => ⟨fun z => absurd rfl z, fun _ => ?_⟩) (fun q s hs hw => ⟨fun _ => ?_, fun z => absurd z (by decide)⟩), fun q => absurd q (by decide)⟩)⟩))
  · rw [an1_out (by omega) h] at k; exact k σ hR
  · rw [hx, an1_in (by omega) ha, an1_out (by omega) h] at k; exact k σ hR
  · rw [hx, an1_in (by omega) ha, hy, an1_in (by omega) hm, if_pos q] at k; exact k σ hR
  · rw [hx, an1_in (by omega) ha, hy, an1_in (by omega) hm, if_neg q] at k
    subst hx
    subst hy
    subst hw
    rw [nI_toInt (by omega), Int.toNat_natCast] at k
    have g7 := hR.1.2.2.1 (8 * m + a) (by omega)
    have h7 := (hW.2.2.2.2.2.2.2.2.2.1 (8 * m + a) (by omega)).2.2.2.2.1
    have g6 := (hR.1.2.2.2.2 m a hm ha).1
    have hv : vp_in (nI (8 * m + a)) 24 := vp_in_nI (by omega) (by decide)
    have ez : z = nI (if z = 0 then 0 else 1) := by rcases hz with rfl | rfl <;> rfl
    -- behind it
    have fin : RM (thD D (8 * m + a) s (if z = 0 then 0 else 1)) hb It (hv_ui (hv_ui (hv_ui σ 67 (8 * m + a) z) 66 (8 * m + a) (nI s)) 60 24 0) := by
      obtain ⟨⟨a1, a2, a3, a4, a5⟩, ⟨b1, b2⟩, ⟨c1, c2, c3, c4, c5, c6⟩, hB, ⟨f1, f2⟩, ⟨g1, g2⟩⟩ := hR
      have t0 : ∀ j, thD D (8 * m + a) s (if z = 0 then 0 else 1) 0 j = D 0 j := fun j => th_n D _ _ _ (by decide) j
      refine ⟨⟨a1, a2, fun c hc => ?_, fun c hc => ?_, fun m' a' hm' ha' => ?_⟩, ⟨b1, b2⟩, ⟨c1, c2, c3, c4, c5, c6⟩, ⟨hB.1, Or.inl rfl⟩, ⟨f1, f2⟩, ⟨g1, g2⟩⟩
      · simp only [ui_1, show ¬ (67 = 60) by decide, show ¬ (67 = 66) by decide, false_and, if_false, true_and]
        by_cases q : c = 8 * m + a
        · rw [if_pos q, q, th_7]; exact ez
        · rw [if_neg q, th_o D _ _ _ q]; exact a3 c hc
      · simp only [ui_1, show ¬ (66 = 60) by decide, false_and, if_false, true_and]
        by_cases q : c = 8 * m + a
        · rw [if_pos q]; exact ⟨s, hs, rfl⟩
        · rw [if_neg q]; simp only [show ¬ (66 = 67) by decide, false_and, if_false]; exact a4 c hc
      · obtain ⟨w6, w1, w2, w3, w4, w5⟩ := a5 m' a' hm' ha'
        refine ⟨?_, ?_, ?_, ?_, ?_, ?_⟩
        · simp only [ui_1, show ¬ (66 = 60) by decide, false_and, if_false, true_and]
          by_cases q : 8 * m' + a' = 8 * m + a
          · rw [if_pos q, q, th_6]
          · rw [if_neg q, th_o D _ _ _ q]; simp only [show ¬ (66 = 67) by decide, false_and, if_false]; exact w6
        · rw [th_n D _ _ _ (by decide)]; exact w1
        · rw [th_n D _ _ _ (by decide)]; exact w2
        · rw [th_n D _ _ _ (by decide)]; exact w3
        · rw [th_n D _ _ _ (by decide)]; exact w4
        · rw [th_n D _ _ _ (by decide)]; exact w5
    have k := k _ fin
    have k : Φ (nI (D 7 (8 * m + a) * 100 + D 6 (8 * m + a))) (hv_ui (hv_ui (hv_ui σ 67 (8 * m + a) z) 66 (8 * m + a) (nI s)) 60 24 0) := k
    rw [cellM, nI_clamp (by omega), g7, g6]
    refine ⟨hv, fun q2 => ⟨hv, hv, hz, hv, ?_⟩, fun q2 => ⟨hv, hv, hz, hv, ?_⟩⟩
    · have z0 : D 7 (8 * m + a) = 0 := (nI_eq (b := 0) (by omega) (by decide)).mp q2
      rw [z0] at k
      have e1 : (0 : Int32) + nI (D 6 (8 * m + a)) = nI (0 * 100 + D 6 (8 * m + a)) := by rw [show (0 : Int32) = nI 0 from rfl, nI_add]
      rw [e1]; exact k
    · have z1 : D 7 (8 * m + a) = 1 := by
        rcases (show D 7 (8 * m + a) = 0 ∨ D 7 (8 * m + a) = 1 by omega) with c | c
        · exact absurd (by rw [c]; rfl) q2
        · exact c
      rw [z1] at k
      have e1 : (100 : Int32) + nI (D 6 (8 * m + a)) = nI (1 * 100 + D 6 (8 * m + a)) := by rw [show (100 : Int32) = nI 100 from rfl, nI_add]
      rw [e1]; exact k
theorem y_pass {Φ : Int32 → hv_S → Prop} (hR : RM D hb It σ) (hW : hWF D) (x : Int32) (k : ∀ σ', RM (psR D x).2 hb It σ' → Φ (psR D x).1 σ') : hv_CI l (hv_e2 e) 1 m_X10_pass [.ref 60, .int x] σ Φ := by
  have hw := hW.2.1
  unfold psR at k
  refine B_X10_pass _ (y_in (fun q => ⟨fun _ => ?_, fun z => absurd rfl z⟩) (fun q1 q2 => ⟨fun z => absurd z (by decide), fun _ => ?_⟩))
  · rw [if_pos (by
      by_cases c : x < 1
      · exact Or.inl c
      · exact Or.inr (Or.inl (Int32.not_le.mp (fun z => q ⟨Int32.not_lt.mp c, z⟩))))] at k
    exact k σ hR
  · have q3 : ¬ x < 1 := Int32.not_lt.mpr q1
    have q4 : ¬ 20 < x := Int32.not_lt.mpr q2
    rcases i32_cases x with c | ⟨n, hn, rfl⟩
    · exact absurd (Int32.lt_trans c (by decide)) q3
    · have h20 : n ≤ 20 := Nat.not_lt.mp (fun c => q4 ((nI_ltI (a := 20) (by decide) hn).mpr c))
      rw [nI_toInt hn, Int.toNat_natCast] at k
      rw [hR.1.2.1, nI_add, show (99 : Int32) = nI 99 from rfl, nI_leI (by omega) (by decide)]
      refine ⟨fun q5 => ?_, fun q5 => ?_⟩
      · rw [if_neg (fun c => by rcases c with c | c | c; exact q3 c; exact q4 c; omega)] at k
        obtain ⟨⟨a1, a2, a3, a4, a5⟩, ⟨b1, b2⟩, ⟨c1, c2, c3, c4, c5, c6⟩, hB, ⟨f1, f2⟩, ⟨g1, g2⟩⟩ := hR
        exact k _ ⟨⟨a1, rfl, a3, a4, a5⟩, ⟨b1, b2⟩, ⟨c1, c2, c3, c4, c5, c6⟩, hB, ⟨f1, f2⟩, ⟨g1, g2⟩⟩
      · rw [if_pos (Or.inr (Or.inr (by omega)))] at k; exact k σ hR
theorem y_member {Φ : Int32 → hv_S → Prop} (hR : RM D hb It σ) (hW : hWF D) (k : ∀ σ', RM (mbR D).2 hb It σ' → Φ (mbR D).1 σ') : hv_CI l (hv_e2 e) 1 m_X10_member [.ref 60] σ Φ := by
  have hn := hW.1
  unfold mbR at k
  have c8 : σ.1 60 0 = 8 ↔ D 0 0 = 8 := by rw [hR.1.1]; exact nI_eq (b := 8) (by omega) (by decide)
  refine B_X10_member ?_
  rw [ne_eq, c8]
  refine ⟨fun q => ?_, fun q => ?_⟩
  · have q1 : D 0 0 < 8 := by omega
    rw [if_pos q1] at k
    have k : ∀ σ', RM (aU D 0 0 (D 0 0 + 1)) hb It σ' → Φ (nI (D 0 0)) σ' := k
    suffices ∀ d i σ', i + d = 3 → (∀ p, (p < 61 ∨ 66 < p) → ∀ j, σ'.1 p j = σ.1 p j) → σ'.2 = σ.2 → (∀ p c, c % 8 ≠ D 0 0 → σ'.1 p c = σ.1 p c) → (∀ c, c < 24 → ∃ s, s ≤ 10 ∧ σ'.1 66 c = nI s) → (∀ m, m < i → σ'.1 66 (8 * m + D 0 0) = 5 ∧ σ'.1 61 (8 * m + D 0 0) = 1 ∧ σ'.1 62 (8 * m + D 0 0) = 100 ∧ σ'.1 63 (8 * m + D 0 0) = -1 ∧ σ'.1 64 (8 * m + D 0 0) = -1 ∧ σ'.1 65 (8 * m + D 0 0) = 0) → L_X10_member_14 l e Φ (nI i) σ' by
      exact this 3 0 σ rfl (fun _ _ _ => rfl) rfl (fun _ _ _ => rfl) hR.1.2.2.2.1 (fun m hm => absurd hm (Nat.not_lt_zero m))
    intro d
    induction d with
    | zero =>
      intro i σ' hi ho h2 hc h66 hm'
      have h3 : i = 3 := by omega
      subst h3
      refine B_X10_member_14 _ ⟨fun _ => ?_, fun z => absurd (nI_le (a := 3) (b := 3) (by decide) (by decide)) z⟩
      rw [ho 60 (by decide), hR.1.1, nI_1, nI_pred]
      obtain ⟨⟨a1, a2, a3, a4, a5⟩, ⟨b1, b2⟩, ⟨c1, c2, c3, c4, c5, c6⟩, hB, ⟨f1, f2⟩, ⟨g1, g2⟩⟩ := hR
      have u60 : ∀ j, j ≠ 0 → j ≠ 24 → (hv_ui (hv_ui σ' 60 0 (nI (D 0 0 + 1))) 60 24 0).1 60 j = σ.1 60 j := fun j j0 j24 => by rw [ui_1, if_neg (fun z => j24 z.2), ui_1, if_neg (fun z => j0 z.2)]; exact ho 60 (by decide) j
      refine k _ ⟨⟨?_, ?_, fun c hc24 => ?_, h66, fun m a hm ha => ?_⟩, ⟨?_, fun k hk => ?_⟩, ⟨?_, ?_, ?_, ?_, ?_, ?_⟩, ⟨fun j hj => ?_, Or.inl ?_⟩, ⟨?_, fun k hk hk2 => ?_⟩, ⟨fun t ht => ?_, fun t i ht hi => ?_⟩⟩
      · rw [ui_1, if_neg (by decide), ui_1, if_pos ⟨rfl, rfl⟩]; rfl
      · rw [u60 1 (by decide) (by decide)]; exact a2
      · show σ'.1 67 c = _
        rw [ho 67 (by decide)]; exact a3 c hc24
      · have ha : a < D 0 0 + 1 := ha
        show σ'.1 66 (8 * m + a) = nI (D 6 (8 * m + a)) ∧ σ'.1 61 (8 * m + a) = nI (D 1 (8 * m + a)) ∧ σ'.1 62 (8 * m + a) = nI (D 2 (8 * m + a)) ∧ σ'.1 63 (8 * m + a) = nmM (D 3 (8 * m + a)) ∧ σ'.1 64 (8 * m + a) = nmM (D 4 (8 * m + a)) ∧ σ'.1 65 (8 * m + a) = nI (D 5 (8 * m + a))
        by_cases c : a = D 0 0
        · have h0 := hW.2.2.2.2.2.2.2.2.2.2.1 (8 * m + a) (by omega) (by omega)
          obtain ⟨z1, z2, z3, z4, z5, z6, z7⟩ := h0
          obtain ⟨w6, w1, w2, w3, w4, w5⟩ := hm' m (by omega)
          rw [z1, z2, z3, z4, z5, z6, c]
          exact ⟨w6, w1, w2, w3, w4, w5⟩
        · obtain ⟨w6, w1, w2, w3, w4, w5⟩ := a5 m a hm (by omega)
          rw [hc 66 _ (by omega), hc 61 _ (by omega), hc 62 _ (by omega), hc 63 _ (by omega), hc 64 _ (by omega), hc 65 _ (by omega)]
          exact ⟨w6, w1, w2, w3, w4, w5⟩
      · rw [u60 10 (by decide) (by decide)]; exact b1
      · show σ'.1 68 (100 + k) = _
        rw [ho 68 (by decide)]; exact b2 k hk
      · rw [u60 9 (by decide) (by decide)]; exact c1
      · rw [u60 19 (by decide) (by decide)]; exact c2
      · rw [u60 20 (by decide) (by decide)]; exact c3
      · rw [u60 21 (by decide) (by decide)]; exact c4
      · rw [u60 22 (by decide) (by decide)]; exact c5
      · rcases c6 with c6 | ⟨c7, T, n, s, d1, d2, d3, d4, d5⟩
        · exact Or.inl c6
        · exact Or.inr ⟨c7, T, n, s, d1, d2, by show σ'.1 69 0 = _; rw [ho 69 (by decide)]; exact d3, fun k hk => by show σ'.1 68 k = _; rw [ho 68 (by decide)]; exact d4 k hk, d5⟩
      · show ∃ f, f < 1000 ∧ σ'.1 70 j = nI f
        rw [ho 70 (by decide)]; exact hB.1 j hj
      · rw [ui_1, if_pos ⟨rfl, rfl⟩]
      · rw [u60 46 (by decide) (by decide)]; exact f1
      · show σ'.1 79 k = _
        rw [ho 79 (by decide)]; exact f2 k hk hk2
      · show σ'.1 80 t = _ ∧ σ'.1 81 t = _
        rw [ho 80 (by decide), ho 81 (by decide)]; exact g1 t ht
      · show σ'.2.1 82 _ = _
        rw [h2]; exact g2 t i ht hi
    | succ d ih =>
      intro i σ' hi ho h2 hc h66 hm'
      have hx : 8 * nI i + σ'.1 60 0 = nI (8 * i + D 0 0) := by rw [ho 60 (by decide), hR.1.1]; exact cellM _ _
      refine B_X10_member_14 _ ⟨fun z => absurd z (nI_ge (a := i) (b := 3) (by omega) (by decide)), fun _ => ?_⟩
      rw [hx]
      have hv : vp_in (nI (8 * i + D 0 0)) 24 := vp_in_nI (by omega) (by decide)
      refine B_X10_put _ _ _ _ _ ⟨hv, hv, hv, hv, hv, ?_⟩
      rw [nI_clamp (by omega)]
      obtain ⟨σ2, hσ⟩ : ∃ σ2, σ2 = hv_ui (hv_ui (hv_ui (hv_ui (hv_ui σ' 61 (8 * i + D 0 0) 1) 62 (8 * i + D 0 0) 100) 63 (8 * i + D 0 0) (-1)) 64 (8 * i + D 0 0) (-1)) 65 (8 * i + D 0 0) 0 := ⟨_, rfl⟩
      rw [← hσ]
      have ho2 : ∀ p, (p < 61 ∨ 65 < p) → ∀ j, σ2.1 p j = σ'.1 p j := fun p hp j => by
        rw [hσ]; simp only [ui_1, show p ≠ 61 by omega, show p ≠ 62 by omega, show p ≠ 63 by omega, show p ≠ 64 by omega, show p ≠ 65 by omega, false_and, if_false]
      have hc2 : ∀ p c, c ≠ 8 * i + D 0 0 → σ2.1 p c = σ'.1 p c := fun p c hcc => by
        rw [hσ]; simp only [ui_1, hcc, and_false, if_false]
      rw [ho2 60 (by decide), hx, nI_clamp (by omega), nI_1]
      refine ⟨hv, ih (i + 1) _ (by omega) (fun p hp j => ?_) (by rw [hσ]; exact h2) (fun p c hcc => ?_) (fun c hc24 => ?_) (fun m hm => ?_)⟩
      · rw [ui_1, if_neg (fun z => by omega), ho2 p (by omega)]; exact ho p (by omega) j
      · have : c ≠ 8 * i + D 0 0 := fun z => by rw [z] at hcc; omega
        rw [ui_1, if_neg (fun z => this z.2), hc2 p c this]; exact hc p c hcc
      · rw [ui_1]
        by_cases q : c = 8 * i + D 0 0
        · rw [if_pos ⟨rfl, q⟩]; exact ⟨5, by decide, rfl⟩
        · rw [if_neg (fun z => q z.2), ho2 66 (by decide)]; exact h66 c hc24
      · by_cases q : m = i
        · subst q
          refine ⟨?_, ?_, ?_, ?_, ?_, ?_⟩
          · rw [ui_1, if_pos ⟨rfl, rfl⟩]
          · rw [ui_1, if_neg (fun z => absurd z.1 (by decide)), hσ]; simp [ui_1]
          · rw [ui_1, if_neg (fun z => absurd z.1 (by decide)), hσ]; simp [ui_1]
          · rw [ui_1, if_neg (fun z => absurd z.1 (by decide)), hσ]; simp [ui_1]
          · rw [ui_1, if_neg (fun z => absurd z.1 (by decide)), hσ]; simp [ui_1]
          · rw [ui_1, if_neg (fun z => absurd z.1 (by decide)), hσ]; simp [ui_1]
        · obtain ⟨w6, w1, w2, w3, w4, w5⟩ := hm' m (by omega)
          have hne : 8 * m + D 0 0 ≠ 8 * i + D 0 0 := by omega
          refine ⟨?_, ?_, ?_, ?_, ?_, ?_⟩ <;> rw [ui_1, if_neg (fun z => hne z.2), hc2 _ _ hne] <;> assumption
  · rw [if_neg (by omega)] at k; exact k σ hR
-- feeding
theorem sx_by (x : Int32) {k : Nat} (hk : k < 4) : (x >>> ((8 * nI k) &&& 31)).toInt8.toInt32 = sxI (byN x k) := by
  have e1 : (8 : Int32) * nI k = nI (8 * k) := by rw [show (8 : Int32) = nI 8 from rfl, pk_mul]
  have hb := byN_lt x k
  apply Int32.toInt_inj.mp
  rw [sxI_toInt hb, Int8.toInt_toInt32, Int32.toInt_toInt8, e1, pk_shr x _ (8 * k) (tI_sc (8 * k) (by omega)), Int.shiftRight_eq_div_pow]
  have hx : x.toInt = (x.toBitVec.toNat : Int) ∨ x.toInt = (x.toBitVec.toNat : Int) - 4294967296 := by
    have h := BitVec.toInt_eq_toNat_cond x.toBitVec
    have h2 : x.toInt = x.toBitVec.toInt := rfl
    rw [h2, h]
    split
    · exact Or.inl rfl
    · right; omega
  unfold byN at *
  generalize x.toInt = X at *
  generalize x.toBitVec.toNat = N at *
  rw [Int.bmod_def]
  rcases (show k = 0 ∨ k = 1 ∨ k = 2 ∨ k = 3 by omega) with rfl | rfl | rfl | rfl <;> simp only [Nat.mul_zero, Nat.reduceMul, Nat.reducePow, Nat.mul_one] at * <;> (split <;> split <;> omega)
theorem y_feed {Φ : Int32 → hv_S → Prop} (hR : RM D hb It σ) (hW : hWF D) (x y : Int32) (k : ∀ σ', RM (feR D x y).2 hb It σ' → Φ (feR D x y).1 σ') : hv_CI l (hv_e2 e) 1 m_X10_feed [.ref 60, .int x, .int y] σ Φ := by
  have hn : D 0 7 ≤ 100 := hW.2.2.2.2.2.2.2.2.1
  unfold feR at k
  refine B_X10_feed _ _ (y_inR (n := 4) (by decide) rfl (fun q => ⟨fun z => absurd rfl z, fun _ => ?_⟩) (fun q3 n hn4 hy => ⟨fun _ => ?_, fun z => absurd z (by decide)⟩))
  · rw [if_pos q] at k; exact k σ hR
  · subst hy
    rw [if_neg q3, nI_toInt (by omega), Int.toNat_natCast] at k
    rw [hR.2.1.1, nI_add, show (100 : Int32) = nI 100 from rfl, nI_leI (by omega) (by decide)]
    refine ⟨fun q => ?_, fun q => ?_⟩
    · rw [if_neg (by omega)] at k
      suffices ∀ m (D : hD) σ, m ≤ 4 → RM D hb It σ → D 0 7 + m ≤ 100 → (∀ σ', RM (feL x m D) hb It σ' → Φ (nI (D 0 7 + m)) σ') → L_X10_feed_31 l e Φ x (nI m - 1) σ by exact this n D σ hn4 hR (by omega) k
      intro m
      induction m with
      | zero =>
        intro D σ _ hR hd k
        refine B_X10_feed_31 _ _ ⟨fun _ => ?_, fun q => absurd (by decide) q⟩
        rw [hR.2.1.1]; exact k σ hR
      | succ m ih =>
        intro D σ hm hR hd k
        rw [nI_pred]
        refine B_X10_feed_31 _ _ ⟨fun q => absurd q (nI_pos (by omega)), fun _ => ?_⟩
        have e1 : (100 : Int32) + σ.1 60 10 = nI (100 + D 0 7) := by rw [hR.2.1.1, show (100 : Int32) = nI 100 from rfl, nI_add]
        rw [sx_by x (by omega), e1, nI_clamp (by omega), hR.2.1.1, nI_1, ← Int32.sub_eq_add_neg]
        refine ⟨vp_in_nI (by omega) (by decide), ih (apD D (byN x m)) _ (by omega) ?_ (by rw [ap_7]; omega) (fun σ2 h2 => ?_)⟩
        · obtain ⟨⟨a1, a2, a3, a4, a5⟩, ⟨b1, b2⟩, ⟨c1, c2, c3, c4, c5, c6⟩, hB, ⟨f1, f2⟩, ⟨g1, g2⟩⟩ := hR
          refine ⟨⟨a1, a2, a3, a4, a5⟩, ⟨?_, fun j hj => ?_⟩, ⟨c1, c2, c3, c4, c5, ?_⟩, hB, ⟨f1, f2⟩, ⟨g1, g2⟩⟩
          · rw [ui_1, if_pos ⟨rfl, rfl⟩, ap_7]
          · rw [ap_7] at hj
            rw [ap_8, ui_1, if_neg (fun z => absurd z.1 (by decide)), ui_1]
            by_cases c : j = D 0 7
            · rw [if_pos ⟨rfl, by omega⟩, if_pos c]
            · rw [if_neg (fun z => by omega), if_neg c]; exact b2 j (by omega)
          · rcases c6 with c6 | ⟨c7, T, n, s, d1, d2, d3, d4, d5⟩
            · exact Or.inl c6
            · refine Or.inr ⟨c7, T, n, s, d1, d2, d3, fun k hk => ?_, d5⟩
              rw [ui_1, if_neg (fun z => absurd z.1 (by decide)), ui_1, if_neg (fun z => by omega)]
              exact d4 k hk
        · rw [ap_7, show D 0 7 + 1 + m = D 0 7 + (m + 1) by omega]
          exact k σ2 h2
    · rw [if_pos (by omega)] at k; exact k σ hR
end RB
