-- THE REFERENCE: tapes
theorem RM.tp {D D' : hD} {hb : hB} {It It' : hT} {σ σ' : hv_S} (h : RM D hb It σ) (ho : ∀ p, p ≠ 80 → p ≠ 81 → ∀ j, σ'.1 p j = σ.1 p j) (e : ∀ i, i < 10 → ∀ j, D' i j = D i j) (hP : rmP D' It' σ') : RM D' hb It' σ' := by
  obtain ⟨⟨a1, a2, a3, a4, a5⟩, ⟨b1, b2⟩, ⟨c1, c2, c3, c4, c5, c6⟩, hB, ⟨f1, f2⟩, -⟩ := h
  have o : ∀ p, p ≠ 80 ∧ p ≠ 81 → ∀ j, σ'.1 p j = σ.1 p j := fun p hp j => ho p hp.1 hp.2 j
  have e0 := e 0 (by decide)
  have s60 := o 60 (by decide)
  have e6 := e 6 (by decide)
  have e9 := e 9 (by decide)
  refine ⟨⟨by rw [s60, e0]; exact a1, by rw [s60, e0]; exact a2, fun c hc => by rw [o 67 (by decide), e 7 (by decide)]; exact a3 c hc, fun c hc => by rw [o 66 (by decide)]; exact a4 c hc, fun m a hm ha => ?_⟩, ⟨by rw [s60, e0]; exact b1, fun k hk => by rw [o 68 (by decide), e 8 (by decide)]; exact b2 k (by rw [← e0]; exact hk)⟩, ⟨by rw [s60, e0]; exact c1, by rw [s60, e0]; exact c2, by rw [s60, e0]; exact c3, by rw [s60, e0]; exact c4, by rw [s60, e0]; exact c5, ?_⟩, ⟨fun j hj => by rw [o 70 (by decide)]; exact hB.1 j hj, ?_⟩, ⟨by rw [s60, e9]; exact f1, fun k hk hk2 => by rw [o 79 (by decide), e9]; exact f2 k (by rw [← e9]; exact hk) hk2⟩, hP⟩
  · rw [e0] at ha
    rw [o 66 (by decide), o 61 (by decide), o 62 (by decide), o 63 (by decide), o 64 (by decide), o 65 (by decide), e6, e 1 (by decide), e 2 (by decide), e 3 (by decide), e 4 (by decide), e 5 (by decide)]
    exact a5 m a hm ha
  · rw [e0]
    rcases c6 with c6 | ⟨c7, T, n, s, d1, d2, d3, d4, d5⟩
    · exact Or.inl c6
    · exact Or.inr ⟨c7, T, n, s, d1, d2, by rw [o 69 (by decide)]; exact d3, fun k hk => by rw [o 68 (by decide)]; exact d4 k hk, d5⟩
  · rcases hB.2 with c | ⟨c, c71⟩
    · exact Or.inl (by rw [s60]; exact c)
    · refine Or.inr ⟨by rw [s60]; exact c, fun m a b hm ha hb' => ?_⟩
      rw [e0] at ha hb'
      rw [o 71 (by decide), c71 m a b hm ha hb']
      unfold bar
      rw [e6, e6]
theorem srt_0 {s : Nat} (h : s ≤ 5) : (0 ≤ nI s - 1 ↔ s ≠ 0) ∧ (nI s - 1 < 0 ↔ s = 0) := by
  rcases (show s = 0 ∨ s = 1 ∨ s = 2 ∨ s = 3 ∨ s = 4 ∨ s = 5 by omega) with rfl | rfl | rfl | rfl | rfl | rfl <;> decide
section RT
variable {l : Launch} {e : hv_Ev} {σ : hv_S} {D : hD} {hb : hB} {It : hT}
theorem y60 (t i : Nat) : 60 * nI t + nI i = nI (60 * t + i) := by simp only [lI, pk_mul, nI_add]
theorem y_isTape {Φ : Int32 → hv_S → Prop} (x : Int32) (k0 : (∀ t, t < 6 → x ≠ nI t) → Φ 0 σ) (k1 : ∀ t, t < 6 → x = nI t → Φ 1 σ) : hv_CI l (hv_e2 e) 1 m_X10_isTape [.ref 60, .int x] σ Φ :=
  B_X10_isTape _ (y_inN (n := 6) (by decide) (by decide) (fun q => ⟨Or.inl rfl, k0 q⟩) (fun a ha hx => ⟨Or.inr rfl, k1 a ha hx⟩))
theorem y_tape69 {Φ : Int32 → hv_S → Prop} {t s n : Nat} {σ0 : hv_S} (hR : RM D hb It σ) (hW : hWF D) (ht : t < 6) (hn : n ≤ 60) (h0 : σ0 = hv_ui (hv_ui σ 80 t (nI s - 1)) 81 t (nI n)) (k : ∀ σ', RM (tpD D t s n) hb (itZ It t) σ' → Φ 1 σ') : L_X10_tape_69 l e Φ (nI t) 0 σ0 := by
  suffices ∀ d i σ', i + d = 60 → σ'.1 = σ0.1 → (∀ j, j < i → σ'.2.1 82 (60 * t + j) = 0) → (∀ c, (c < 60 * t ∨ 60 * t + 60 ≤ c) → σ'.2.1 82 c = σ.2.1 82 c) → L_X10_tape_69 l e Φ (nI t) (nI i) σ' by
    exact this 60 0 σ0 rfl rfl (fun j hj => absurd hj (Nat.not_lt_zero j)) (fun c _ => by rw [h0]; rfl)
  intro d
  induction d with
  | zero =>
    intro i σ' hi h1 h3 h4
    have hin : i = 60 := by omega
    subst hin
    have ho : ∀ p, p ≠ 80 → p ≠ 81 → ∀ j, σ'.1 p j = σ.1 p j := fun p p1 p2 j => by rw [h1, h0, ui_1, if_neg (fun c => p2 c.1), ui_1, if_neg (fun c => p1 c.1)]
    refine B_X10_tape_69 _ _ ⟨fun _ => k σ' (hR.tp ho (fun j hj => tp_n D _ _ _ hj) ⟨fun t' ht' => ?_, fun t' i' ht' hi' => ?_⟩), fun q => absurd (nI_le (a := 60) (b := 60) (by decide) (by decide)) q⟩
    · rw [h1, h0, ui_1, if_neg (fun c => absurd c.1 (by decide)), ui_1, ui_1]
      by_cases c : t' = t
      · subst c; rw [if_pos ⟨rfl, rfl⟩, if_pos ⟨rfl, rfl⟩, tp_10, tp_11]; exact ⟨rfl, rfl⟩
      · rw [if_neg (fun z => c z.2), if_neg (fun z => c z.2), tp_o D _ _ _ c, tp_o D _ _ _ c]; exact hR.2.2.2.2.2.1 t' ht'
    · unfold itZ
      by_cases c : t' = t
      · subst c; rw [tp_11] at hi'; rw [if_pos rfl]; exact h3 i' (by omega)
      · rw [tp_o D _ _ _ c] at hi'
        have h60 := (hW.2.2.2.2.2.2.2.2.2.2.2.2.2 t' ht').2.1
        rw [if_neg c, h4 _ (by omega)]; exact hR.2.2.2.2.2.2 t' i' ht' hi'
  | succ d ih =>
    intro i σ' hi h1 h3 h4
    refine B_X10_tape_69 _ _ ⟨fun q => absurd q (nI_ge (a := i) (b := 60) (by omega) (by decide)), fun _ => ?_⟩
    rw [y60, nI_clamp (by omega), nI_1]
    refine ⟨vp_in_nI (by omega) (by decide), ih (i + 1) _ (by omega) h1 (fun j hj => ?_) (fun c hc => ?_)⟩
    · rw [ul_1]
      by_cases c : j = i
      · subst c; rw [if_pos ⟨rfl, rfl⟩]
      · rw [if_neg (fun z => by omega)]; exact h3 j (by omega)
    · rw [ul_1, if_neg (fun z => by omega)]; exact h4 c hc
theorem y_tape {Φ : Int32 → hv_S → Prop} (hR : RM D hb It σ) (hW : hWF D) (x y z : Int32) (k : ∀ σ', RM (tpR D It x y z).2.1 hb (tpR D It x y z).2.2 σ' → Φ (tpR D It x y z).1 σ') : hv_CI l (hv_e2 e) 2 m_X10_tape [.ref 60, .int x, .int y, .int z] σ Φ := by
  unfold tpR at k
  refine B_X10_tape _ _ _ (y_isTape x (fun h => ⟨fun q => absurd rfl q, fun _ => ?_⟩) (fun t ht hx => ⟨fun _ => ?_, fun q => absurd q (by decide)⟩))
  · rw [an1_out (by decide) h] at k; exact k σ hR
  · rw [hx, an1_in (by decide) ht] at k
    subst hx
    have hv : vp_in (nI t) 6 := vp_in_nI ht (by decide)
    have ym1 : y < 0 → -1 ≤ y → y = -1 := fun w1 w2 => by
      have w1 := Int32.lt_iff_toInt_lt.mp w1
      have w2 := Int32.le_iff_toInt_le.mp w2
      rw [show (0 : Int32).toInt = 0 by decide] at w1
      rw [show (-1 : Int32).toInt = -1 by decide] at w2
      exact Int32.toInt_inj.mp (by rw [show (-1 : Int32).toInt = -1 by decide]; omega)
    refine y_in (fun q => ⟨fun _ => ?_, fun z => absurd rfl z⟩) (fun q1 q2 => ⟨fun z => absurd z (by decide), fun _ => ⟨fun q3 => ⟨fun _ => ?_, fun z => absurd q3 z⟩, fun q3 => ⟨fun q4 => ⟨fun z => absurd z q3, fun _ => ⟨fun q5 => ?_, fun q5 => ?_⟩⟩, fun q4 => ?_⟩⟩⟩)
    · rw [if_neg (fun c => q (by rw [c]; decide)), if_pos (by
        by_cases c : -1 ≤ y
        · exact Or.inr (Or.inl (Int32.not_le.mp (fun z => q ⟨c, z⟩)))
        · exact Or.inl (Int32.not_le.mp c))] at k
      exact k σ hR
    · have := ym1 q3 q1
      subst this
      rw [if_pos rfl] at k
      refine B_X10_tape_44 _ _ _ ⟨hv, fun z => absurd z (by decide), fun _ => ⟨hv, ?_⟩⟩
      rw [nI_clamp (by omega)]
      exact y_tape69 (s := 0) (n := 0) hR hW ht (by decide) rfl k
    · have n3 : ¬ z < 0 := Int32.not_lt.mpr q5
      have n1 : ¬ y = -1 := fun c => q3 (by rw [c]; decide)
      have n2 : ¬ (y < -1 ∨ 4 < y ∨ 60 < z) := fun c => by
        rcases c with c | c | c
        · exact Int32.not_le.mpr c q1
        · exact Int32.not_le.mpr c q2
        · exact Int32.not_le.mpr c q4
      rw [if_neg n1, if_neg n2, if_neg n3] at k
      rcases i32_cases y with c | ⟨s, hs, rfl⟩
      · exact absurd c q3
      · rcases i32_cases z with c | ⟨n, hn, rfl⟩
        · exact absurd c n3
        · have w2 := (nI_leI (b := 60) hn (by decide)).mp q4
          rw [nI_toInt hs, nI_toInt hn, Int.toNat_natCast, Int.toNat_natCast] at k
          refine B_X10_tape_44 _ _ _ ⟨hv, fun _ => ⟨hv, ?_⟩, fun z => absurd (nI_pos' hs) z⟩
          rw [nI_clamp (by omega)]
          exact y_tape69 (s := s + 1) (n := n) hR hW ht w2 (by rw [nI_pred]) k
    · have n3 : z < 0 := Int32.not_le.mp q5
      have n1 : ¬ y = -1 := fun c => q3 (by rw [c]; decide)
      have n2 : ¬ (y < -1 ∨ 4 < y ∨ 60 < z) := fun c => by
        rcases c with c | c | c
        · exact Int32.not_le.mpr c q1
        · exact Int32.not_le.mpr c q2
        · exact Int32.not_le.mpr c q4
      rw [if_neg n1, if_neg n2, if_pos n3] at k
      exact k σ hR
    · have n1 : ¬ y = -1 := fun c => q3 (by rw [c]; decide)
      rw [if_neg n1, if_pos (Or.inr (Or.inr (Int32.not_le.mp q4)))] at k
      exact k σ hR
theorem RM.it {It' : hT} {σ' : hv_S} (h : RM D hb It σ) (h1 : σ'.1 = σ.1) (hi : ∀ t i, t < 6 → i < D 11 t → σ'.2.1 82 (60 * t + i) = It' t i) : RM D hb It' σ' :=
  h.tp (fun _ _ _ _ => by rw [h1]) (fun _ _ _ => rfl) ⟨fun t ht => by rw [h1]; exact h.2.2.2.2.2.1 t ht, hi⟩
theorem y_read {Φ : Int64 → hv_S → Prop} (hR : RM D hb It σ) (hW : hWF D) (x y : Int32) (k : Φ (rdA D It x y) σ) : hv_CL l (hv_e2 e) 2 m_X10_read [.ref 60, .int x, .int y] σ Φ := by
  unfold rdA at k
  refine B_X10_read _ _ (y_isTape x (fun h => ⟨fun _ => ?_, fun q => absurd rfl q⟩) (fun t ht hx => ⟨fun q => absurd q (by decide), fun _ => ?_⟩))
  · rw [an1_out (by decide) h] at k; exact k
  · rw [hx, an1_in (by decide) ht] at k
    subst hx
    obtain ⟨h5, h60, h0⟩ := hW.2.2.2.2.2.2.2.2.2.2.2.2.2 t ht
    rw [nI_clamp (by omega), (hR.2.2.2.2.2.1 t ht).2, (hR.2.2.2.2.2.1 t ht).1, (srt_0 h5).2]
    have hv : vp_in (nI t) 6 := vp_in_nI ht (by decide)
    refine ⟨hv, fun q => ?_, fun q => ⟨hv, y_inN (n := D 11 t) (by omega) rfl (fun h => ⟨fun z => absurd rfl z, fun _ => ?_⟩) (fun i hi hy => ⟨fun _ => ?_, fun z => absurd z (by decide)⟩)⟩⟩
    · rw [an1_out (by omega) (fun m hm => absurd hm (by rw [h0 q]; omega))] at k; exact k
    · rw [an1_out (by omega) h] at k; exact k
    · subst hy
      rw [an1_in (by omega) hi] at k
      rw [y60, nI_clamp (by omega), hR.2.2.2.2.2.2 t i ht hi]
      exact ⟨vp_in_nI (by omega) (by decide), k⟩
theorem y_narrow {Φ : Int64 → hv_S → Prop} {s : Nat} (hs : s ≤ 5) (v : Int64) (k : Φ (nwL s v) σ) : hv_CL l (hv_e2 e) 0 m_X10_narrow [.ref 60, .int (nI s - 1), .long v] σ Φ := by
  have cc : ∀ j, j < 5 → (nI s - 1 = nI j ↔ s = j + 1) := fun j hj => srt_k hs hj
  unfold nwL at k
  refine B_X10_narrow _ _ ⟨fun q0 => ⟨fun q1 => ⟨fun q2 => ⟨fun q4 => ?_, fun q => ?_⟩, fun q => ?_⟩, fun q => ?_⟩, fun q => ?_⟩
  · rw [if_neg (fun c => q0 ((cc 0 (by decide)).mpr c)), if_neg (fun c => q1 ((cc 1 (by decide)).mpr c)), if_neg (fun c => q2 ((cc 2 (by decide)).mpr c)), if_neg (fun c => q4 ((cc 4 (by decide)).mpr c))] at k
    exact k
  · have := (cc 4 (by decide)).mp q; subst this
    rw [if_neg (by decide), if_neg (by decide), if_neg (by decide), if_pos rfl] at k
    exact ⟨fun c => by rw [if_pos c] at k; exact k, fun c => by rw [if_neg c] at k; exact k⟩
  · have := (cc 2 (by decide)).mp q; subst this; exact k
  · have := (cc 1 (by decide)).mp q; subst this; exact k
  · have := (cc 0 (by decide)).mp q; subst this; exact k
theorem y_item {Φ : Int32 → hv_S → Prop} (hR : RM D hb It σ) (hW : hWF D) (x y : Int32) (v : Int64) (k : ∀ σ', RM D hb (imR D It x y v).2 σ' → Φ (imR D It x y v).1 σ') : hv_CI l (hv_e2 e) 2 m_X10_item [.ref 60, .int x, .int y, .long v] σ Φ := by
  unfold imR at k
  refine B_X10_item _ _ _ (y_isTape x (fun h => ⟨fun q => absurd rfl q, fun _ => ?_⟩) (fun t ht hx => ⟨fun _ => ?_, fun q => absurd q (by decide)⟩))
  · rw [an1_out (by decide) h] at k; exact k σ hR
  · rw [hx, an1_in (by decide) ht] at k
    subst hx
    obtain ⟨h5, h60, h0⟩ := hW.2.2.2.2.2.2.2.2.2.2.2.2.2 t ht
    rw [nI_clamp (by omega), (hR.2.2.2.2.2.1 t ht).2, (hR.2.2.2.2.2.1 t ht).1, (srt_0 h5).1]
    have hv : vp_in (nI t) 6 := vp_in_nI ht (by decide)
    refine ⟨hv, fun q1 => ⟨hv, y_inN (n := D 11 t) (by omega) rfl (fun h => ⟨fun z => absurd rfl z, fun _ => ?_⟩) (fun i hi hy => ⟨fun _ => ⟨hv, ?_⟩, fun z => absurd z (by decide)⟩)⟩, fun q => ?_⟩
    · rw [if_neg q1, an1_out (by omega) h] at k; exact k σ hR
    · subst hy
      rw [if_neg q1, an1_in (by omega) hi] at k
      rw [(hR.2.2.2.2.2.1 t ht).1]
      refine y_narrow h5 v ?_
      rw [y60, nI_clamp (by omega)]
      refine ⟨vp_in_nI (by omega) (by decide), k _ (hR.it rfl (fun t' i' ht' hi' => ?_))⟩
      have h60' := (hW.2.2.2.2.2.2.2.2.2.2.2.2.2 t' ht').2.1
      show _ = itS It t i (nwL (D 10 t) v) t' i'
      rw [ul_1]
      unfold itS
      by_cases c : t' = t ∧ i' = i
      · rw [if_pos c, if_pos ⟨rfl, by omega⟩]
      · rw [if_neg c, if_neg (fun z => c (by omega))]; exact hR.2.2.2.2.2.2 t' i' ht' hi'
    · rw [if_pos (by omega)] at k; exact k σ hR
theorem y_sub {i n L : Nat} (hi : i < 2 ^ 31) (hn : n < 2 ^ 31) (hL : L ≤ 60) : (nI L - nI n < nI i ↔ L < i + n) ∧ (nI i ≤ nI L - nI n ↔ i + n ≤ L) := by
  have e : (nI L - nI n).toInt = (L : Int) - n := by
    rw [Int32.toInt_sub, nI_toInt (by omega), nI_toInt hn]
    exact Int.bmod_eq_of_le (by omega) (by omega)
  constructor
  · rw [Int32.lt_iff_toInt_lt, e, nI_toInt hi]; omega
  · rw [Int32.le_iff_toInt_le, e, nI_toInt hi]; omega
theorem y_copy {Φ : Int32 → hv_S → Prop} {t i o j n : Nat} (hR : RM D hb It σ) (hW : hWF D) (ht : t < 6) (ho : o < 6) (hi : i + n ≤ D 11 t) (hj : j + n ≤ D 11 o) (k : ∀ σ', RM D hb (itC It t i o j n) σ' → Φ (nI n) σ') : L_X10_shift_104 l e Φ (nI t) (nI i) (nI o) (nI j) (nI n) 0 σ := by
  have h60 := (hW.2.2.2.2.2.2.2.2.2.2.2.2.2 t ht).2.1
  have h60' := (hW.2.2.2.2.2.2.2.2.2.2.2.2.2 o ho).2.1
  have two : ∀ d i' σ', i' + d = n → σ'.1 = σ.1 → (∀ q, q < n → σ'.2.1 83 q = It t (i + q)) → (∀ q, q < i' → σ'.2.1 82 (60 * o + j + q) = It t (i + q)) → (∀ c, (c < 60 * o + j ∨ 60 * o + j + i' ≤ c) → σ'.2.1 82 c = σ.2.1 82 c) → L_X10_shift_141 l e Φ (nI o) (nI j) (nI n) (nI i') σ' := by
    intro d
    induction d with
    | zero =>
      intro i' σ' hi' h1 h83 h82 hc
      have hin : i' = n := by omega
      subst hin
      refine B_X10_shift_141 _ _ _ _ ⟨fun _ => k σ' (hR.it h1 (fun t' c ht' hc' => ?_)), fun q => absurd (nI_le (Nat.le_refl _) (by omega)) q⟩
      have h60t := (hW.2.2.2.2.2.2.2.2.2.2.2.2.2 t' ht').2.1
      unfold itC
      by_cases w : t' = o ∧ j ≤ c ∧ c < j + i'
      · rw [if_pos w, ← h82 (c - j) (by omega)]
        exact congrArg (σ'.2.1 82) (by omega)
      · rw [if_neg w, hc _ (by omega)]; exact hR.2.2.2.2.2.2 t' c ht' hc'
    | succ d ih =>
      intro i' σ' hi' h1 h83 h82 hc
      refine B_X10_shift_141 _ _ _ _ ⟨fun q => absurd q (nI_ge (by omega) (by omega)), fun _ => ?_⟩
      rw [y60, nI_add, nI_clamp (by omega), nI_clamp (by omega), h83 i' (by omega), nI_1]
      refine ⟨vp_in_nI (by omega) (by decide), vp_in_nI (by omega) (by decide), ih (i' + 1) _ (by omega) h1 (fun q hq => ?_) (fun q hq => ?_) (fun c hcc => ?_)⟩
      · rw [ul_1, if_neg (fun z => absurd z.1 (by decide))]; exact h83 q hq
      · rw [ul_1]
        by_cases w : q = i'
        · subst w; rw [if_pos ⟨rfl, rfl⟩]
        · rw [if_neg (fun z => by omega)]; exact h82 q (by omega)
      · rw [ul_1, if_neg (fun z => by omega)]; exact hc c (by omega)
  suffices ∀ d i' σ', i' + d = n → σ'.1 = σ.1 → (∀ q, q < i' → σ'.2.1 83 q = It t (i + q)) → (∀ c, σ'.2.1 82 c = σ.2.1 82 c) → L_X10_shift_104 l e Φ (nI t) (nI i) (nI o) (nI j) (nI n) (nI i') σ' by
    exact this n 0 σ (Nat.zero_add n) rfl (fun q hq => absurd hq (Nat.not_lt_zero q)) (fun _ => rfl)
  intro d
  induction d with
  | zero =>
    intro i' σ' hi' h1 h83 h82
    have hin : i' = n := by omega
    subst hin
    refine B_X10_shift_104 _ _ _ _ _ _ ⟨fun _ => two i' 0 σ' (by omega) h1 h83 (fun q hq => absurd hq (Nat.not_lt_zero q)) (fun c _ => h82 c), fun q => absurd (nI_le (Nat.le_refl _) (by omega)) q⟩
  | succ d ih =>
    intro i' σ' hi' h1 h83 h82
    refine B_X10_shift_104 _ _ _ _ _ _ ⟨fun q => absurd q (nI_ge (by omega) (by omega)), fun _ => ?_⟩
    rw [y60, nI_add, nI_clamp (by omega), nI_clamp (by omega), h82, nI_1]
    refine ⟨vp_in_nI (by omega) (by decide), vp_in_nI (by omega) (by decide), ih (i' + 1) _ (by omega) h1 (fun q hq => ?_) (fun c => ?_)⟩
    · rw [ul_1]
      by_cases w : q = i'
      · subst w
        rw [if_pos ⟨rfl, rfl⟩, ← hR.2.2.2.2.2.2 t (i + q) ht (by omega)]
        exact congrArg (σ.2.1 82) (by omega)
      · rw [if_neg (fun z => by omega)]; exact h83 q (by omega)
    · rw [ul_1, if_neg (fun z => absurd z.1 (by decide))]; exact h82 c
theorem y_shift {Φ : Int32 → hv_S → Prop} (hR : RM D hb It σ) (hW : hWF D) (x y z w v : Int32) (k : ∀ σ', RM D hb (sfR D It x y z w v).2 σ' → Φ (sfR D It x y z w v).1 σ') : hv_CI l (hv_e2 e) 2 m_X10_shift [.ref 60, .int x, .int y, .int z, .int w, .int v] σ Φ := by
  unfold sfR at k
  refine B_X10_shift _ _ _ _ _ (y_isTape x (fun h => ⟨fun _ => ?_, fun q => absurd rfl q⟩) (fun t ht hx => ⟨fun q => absurd q (by decide), fun _ => y_isTape z (fun h => ⟨fun q => absurd rfl q, fun _ => ?_⟩) (fun o ho hz => ⟨fun _ => ?_, fun q => absurd q (by decide)⟩)⟩))
  · rw [an1_out (by decide) h] at k; exact k σ hR
  · rw [hx, an1_in (by decide) ht, an1_out (by decide) h] at k; exact k σ hR
  · rw [hx, an1_in (by decide) ht, hz, an1_in (by decide) ho] at k
    subst hx
    subst hz
    obtain ⟨h5, h60, h0⟩ := hW.2.2.2.2.2.2.2.2.2.2.2.2.2 t ht
    obtain ⟨h5', h60', h0'⟩ := hW.2.2.2.2.2.2.2.2.2.2.2.2.2 o ho
    rw [nI_clamp (by omega), nI_clamp (by omega), (hR.2.2.2.2.2.1 t ht).1, (hR.2.2.2.2.2.1 o ho).1, (hR.2.2.2.2.2.1 t ht).2, (hR.2.2.2.2.2.1 o ho).2, (srt_0 h5).2, (srt_0 h5').1, srt_e h5 h5']
    have hv : vp_in (nI t) 6 := vp_in_nI ht (by decide)
    have hv' : vp_in (nI o) 6 := vp_in_nI ho (by decide)
    refine ⟨hv, fun q => ?_, fun q1 => ⟨hv', fun q2 => ⟨hv, hv', fun q3 => ⟨fun q4 => ?_, fun q4 => ⟨fun q5 => ?_, fun q5 => ⟨fun q6 => ?_, fun q6 => ?_⟩⟩⟩, fun q => ?_⟩, fun q => ?_⟩⟩
    · rw [if_pos (Or.inl q)] at k; exact k σ hR
    · rw [if_neg (fun c => c.elim q1 q2), if_neg (fun c => c q3), if_pos (Or.inr (Or.inr (Or.inl q4)))] at k; exact k σ hR
    · rw [if_neg (fun c => c.elim q1 q2), if_neg (fun c => c q3), if_pos (Or.inl q5)] at k; exact k σ hR
    · rw [if_neg (fun c => c.elim q1 q2), if_neg (fun c => c q3), if_pos (Or.inr (Or.inl q6))] at k; exact k σ hR
    · rw [if_neg (fun c => c.elim q1 q2), if_neg (fun c => c q3)] at k
      rcases i32_cases v with c | ⟨n, hn, rfl⟩
      · exact absurd c q4
      · rcases i32_cases y with c | ⟨i, hi, rfl⟩
        · exact absurd c q5
        · rcases i32_cases w with c | ⟨j, hj, rfl⟩
          · exact absurd c q6
          · rw [nI_toInt hn, nI_toInt hi, nI_toInt hj, Int.toNat_natCast, Int.toNat_natCast, Int.toNat_natCast] at k
            rw [(y_sub hi hn h60).1, (y_sub hj hn h60').2]
            refine ⟨hv, fun q7 => ?_, fun q7 => ⟨hv', fun q8 => ?_, fun q8 => ?_⟩⟩
            · rw [if_pos (Or.inr (Or.inr (Or.inr (Or.inl q7))))] at k; exact k σ hR
            · rw [if_neg (fun c => by rcases c with c | c | c | c | c; exact q5 c; exact q6 c; exact q4 c; omega; omega)] at k
              exact y_copy hR hW ht ho (by omega) q8 k
            · rw [if_pos (Or.inr (Or.inr (Or.inr (Or.inr (by omega)))))] at k; exact k σ hR
    · rw [if_neg (fun c => c.elim q1 q2), if_pos q] at k; exact k σ hR
    · rw [if_pos (Or.inr (by omega))] at k; exact k σ hR
end RT
