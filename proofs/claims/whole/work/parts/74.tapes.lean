-- TAPES
/-- an item as its sort holds it -/
def nwL (s : Nat) (v : Int64) : Int64 := if s = 1 then v.toInt32.toInt8.toInt32.toInt64 else if s = 2 then v.toInt32.toInt16.toInt32.toInt64 else if s = 3 then v.toInt32.toInt64 else if s = 5 then (if v = 0 then 0 else 1) else v
def itS (It : hT) (t i : Nat) (v : Int64) : hT := fun t' i' => if t' = t ∧ i' = i then v else It t' i'
def itZ (It : hT) (t : Nat) : hT := fun t' i' => if t' = t then 0 else It t' i'
def itC (It : hT) (t i o j n : Nat) : hT := fun t' i' => if t' = o ∧ j ≤ i' ∧ i' < j + n then It t (i + (i' - j)) else It t' i'
def tpD (D : hD) (t s n : Nat) : hD := aU (aU D 10 t s) 11 t n
theorem tp_n (D : hD) (t s n : Nat) {i : Nat} (h : i < 10) (j : Nat) : tpD D t s n i j = D i j := by unfold tpD; rw [aU_n _ _ _ _ (by omega), aU_n _ _ _ _ (by omega)]
theorem tp_o (D : hD) (t s n : Nat) {t' : Nat} (h : t' ≠ t) (i : Nat) : tpD D t s n i t' = D i t' := by unfold tpD; rw [aU_o _ _ _ _ h, aU_o _ _ _ _ h]
theorem tp_10 (D : hD) (t s n : Nat) : tpD D t s n 10 t = s := by unfold tpD; rw [aU_n _ _ _ _ (by decide), aU_s]
theorem tp_11 (D : hD) (t s n : Nat) : tpD D t s n 11 t = n := by unfold tpD; rw [aU_s]
theorem tpD_W {D : hD} (hW : hWF D) {t s n : Nat} (hs : s ≤ 5) (hn : n ≤ 60) (h0 : s = 0 → n = 0) : hWF (tpD D t s n) := by
  obtain ⟨g0, g1, g2, g3, g4, g5, g6, g7, g8, g9, g10, g11, g12, g13⟩ := hW
  refine ⟨g0, g1, g2, g3, g4, g5, g6, g7, g8, g9, g10, g11, g12, fun t' ht => ?_⟩
  by_cases c : t' = t
  · subst c; rw [tp_10, tp_11]; exact ⟨hs, hn, h0⟩
  · rw [tp_o D _ _ _ c, tp_o D _ _ _ c]; exact g13 t' ht
def tpR (D : hD) (It : hT) (x y z : Int32) : Int32 × hD × hT := an1 6 x (fun t => if y = -1 then (1, tpD D t 0 0, itZ It t) else if y < -1 ∨ 4 < y ∨ 60 < z then (-2, D, It) else if z < 0 then (-14, D, It) else (1, tpD D t (y.toInt.toNat + 1) z.toInt.toNat, itZ It t)) (-1, D, It)
def imR (D : hD) (It : hT) (x y : Int32) (v : Int64) : Int32 × hT := an1 6 x (fun t => if D 10 t = 0 then (-11, It) else an1 (D 11 t) y (fun i => (1, itS It t i (nwL (D 10 t) v))) (-13, It)) (-1, It)
def rdA (D : hD) (It : hT) (x y : Int32) : Int64 := an1 6 x (fun t => an1 (D 11 t) y (fun i => It t i) nope) nope
def sfR (D : hD) (It : hT) (x y z w v : Int32) : Int32 × hT := an1 6 x (fun t => an1 6 z (fun o => if D 10 t = 0 ∨ D 10 o = 0 then (-11, It) else if D 10 t ≠ D 10 o then (-12, It) else if y < 0 ∨ w < 0 ∨ v < 0 ∨ D 11 t < y.toInt.toNat + v.toInt.toNat ∨ D 11 o < w.toInt.toNat + v.toInt.toNat then (-13, It) else (v, itC It t y.toInt.toNat o w.toInt.toNat v.toInt.toNat)) (-1, It)) (-1, It)
theorem tpR_W {D : hD} {It : hT} (hW : hWF D) (x y z : Int32) : hWF (tpR D It x y z).2.1 := by
  unfold tpR
  by_cases c : ∃ a, a < 6 ∧ x = nI a
  · obtain ⟨t, ht, hx⟩ := c
    rw [hx, an1_in (by decide) ht]
    split
    · exact tpD_W hW (by decide) (by decide) (fun _ => rfl)
    · split
      · exact hW
      · next h1 h2 =>
        split
        · exact hW
        · next h3 =>
          rcases i32_cases y with c | ⟨s, hs, rfl⟩
          · exfalso
            have q1 := Int32.lt_iff_toInt_lt.mp c
            have q2 : ¬ y.toInt < (-1 : Int32).toInt := fun q => h2 (Or.inl (Int32.lt_iff_toInt_lt.mpr q))
            rw [show (0 : Int32).toInt = 0 by decide] at q1
            rw [show (-1 : Int32).toInt = -1 by decide] at q2
            exact h1 (Int32.toInt_inj.mp (by rw [show (-1 : Int32).toInt = -1 by decide]; omega))
          · rcases i32_cases z with c | ⟨n, hn, rfl⟩
            · exact absurd c h3
            · have q1 : ¬ 4 < s := fun q => h2 (Or.inr (Or.inl ((nI_ltI (a := 4) (by decide) hs).mpr q)))
              have q2 : ¬ 60 < n := fun q => h2 (Or.inr (Or.inr ((nI_ltI (a := 60) (by decide) hn).mpr q)))
              rw [nI_toInt hs, nI_toInt hn, Int.toNat_natCast, Int.toNat_natCast]
              exact tpD_W hW (by omega) (by omega) (fun q => absurd q (by omega))
  · rw [an1_out (by decide) (fun m hm hx => c ⟨m, hm, hx⟩)]; exact hW
section TP
variable {l : Launch} {e : hv_Ev} {σ : hv_S} {D : hD} {hb : hB} {It : hT}
theorem x_exists {Φ : Int32 → hv_S → Prop} (x : Int32) (k0 : (∀ t, t < 6 → x ≠ nI t) → Φ 0 σ) (k1 : ∀ t, t < 6 → x = nI t → Φ 1 σ) : hv_CI l (hv_e1 e) 0 m_X7_exists [.ref 39, .int x] σ Φ := by
  refine B_X7_exists _ ⟨fun q => k0 (fun m hm c => absurd (c ▸ q) (nI_pos (by omega))), fun q => ⟨fun q2 => k0 (fun m hm c => ?_), fun q2 => ?_⟩⟩
  · rw [c, show (6 : Int32) = nI 6 from rfl, nI_leI (by omega) (by omega)] at q2
    omega
  · rcases i32_cases x with c | ⟨k, hk, rfl⟩
    · exact absurd c q
    · rw [show (6 : Int32) = nI 6 from rfl, nI_leI (by omega) (by omega)] at q2
      exact k1 k (by omega) rfl
theorem tI60 (t i : Nat) : nI t * 60 + nI i = nI (60 * t + i) := by simp only [lI, pk_mul, nI_add]; rw [Nat.mul_comm]
/-- sorts as they are told -/
theorem srt_m1 {s : Nat} (h : s ≤ 5) : nI s - 1 = -1 ↔ s = 0 := by
  rcases (show s = 0 ∨ s = 1 ∨ s = 2 ∨ s = 3 ∨ s = 4 ∨ s = 5 by omega) with rfl | rfl | rfl | rfl | rfl | rfl <;> decide
theorem srt_k {s k : Nat} (h : s ≤ 5) (hk : k < 5) : nI s - 1 = nI k ↔ s = k + 1 := by
  have : ∀ s, s ≤ 5 → ∀ k, k < 5 → (nI s - 1 = nI k ↔ s = k + 1) := by decide
  exact this s h k hk
theorem srt_e {s r : Nat} (h : s ≤ 5) (hr : r ≤ 5) : nI s - 1 = nI r - 1 ↔ s = r := by
  have : ∀ s, s ≤ 5 → ∀ k, k ≤ 5 → (nI s - 1 = nI k - 1 ↔ s = k) := by decide
  exact this s h r hr
theorem RX.tp {σ' : hv_S} {D' : hD} {It' : hT} (h : RX D hb It σ) (h2 : σ'.2.2 = σ.2.2) (ho : ∀ p, p ≠ 40 → p ≠ 41 → ∀ j, σ'.1 p j = σ.1 p j) (e : ∀ i, i < 10 → ∀ j, D' i j = D i j) (hP : rxP D' It' σ') : RX D' hb It' σ' := by
  have eI : ∀ ks : List Nat, (∀ p, p ∈ ks → p ≠ 40 ∧ p ≠ 41) → eqI ks σ σ' := fun ks hks p hp j => ho p (hks p hp).1 (hks p hp).2 j
  have e0 := e 0 (by decide)
  have hH := rxH_of h.1 (eI [1, 2, 3, 4, 5, 6, 7, 8] (by decide))
  have hT := rxT_of h.2.1 (eI [9, 10] (by decide))
  have hL := rxL_of h.2.2.1 (eI [11, 12, 13, 14, 15, 16] (by decide)) h2
  have hA := rxA_of h.2.2.2.1 (eI [37, 38] (by decide))
  refine ⟨⟨by rw [e0]; exact hH.1, by rw [e0]; exact hH.2.1, fun m hm => ?_, fun c hc => ?_⟩, ⟨by rw [e0]; exact hT.1, fun k hk => by rw [e 8 (by decide)]; exact hT.2 k (by rw [← e0]; exact hk)⟩, ⟨hL.1, by rw [e0]; exact hL.2.1, ?_, fun m a hm ha => ?_⟩, ⟨by rw [e 9 (by decide)]; exact hA.1, fun k hk hk2 => by rw [e 9 (by decide)]; exact hA.2 k (by rw [← e 9 (by decide)]; exact hk) hk2⟩, hP⟩
  · rw [hH.2.2.1 m hm]; exact congrArg nI (msk_ext (fun i _ => by rw [e 7 (by decide)]))
  · rw [e 1 (by decide), e 2 (by decide), e 3 (by decide), e 4 (by decide), e 5 (by decide), e 6 (by decide)]; exact hH.2.2.2 c hc
  · have := hL.2.2.1
    unfold rul at this ⊢
    rw [e0, e0, e0, e0]; exact this
  · rw [hL.2.2.2 m a hm ha]
    exact congrArg nI (msk_ext (fun i _ => by unfold bar; rw [e 6 (by decide), e 6 (by decide)]))
theorem x_reset {Φ : hv_S → Prop} {t s n : Nat} {ss : Int32} (hR : RX D hb It σ) (hW : hWF D) (ht : t < 6) (hn : n ≤ 60) (hs : ss = nI s - 1) (k : ∀ σ', RX (tpD D t s n) hb (itZ It t) σ' → Φ σ') : hv_CV l (hv_e1 e) 0 m_X7_reset [.ref 39, .int (nI t), .int ss, .int (nI n)] σ Φ := by
  subst hs
  have hv : vp_in (nI t) 6 := vp_in_nI ht (by decide)
  refine B_X7_reset _ _ _ ⟨hv, hv, ?_⟩
  rw [nI_clamp (by omega)]
  suffices ∀ d i σ', i + d = n → (∀ p, p ≠ 40 → p ≠ 41 → ∀ j, σ'.1 p j = σ.1 p j) → (∀ t', t' < 6 → σ'.1 40 t' = nI (tpD D t s n 10 t') - 1 ∧ σ'.1 41 t' = nI (tpD D t s n 11 t')) → σ'.2.2 = σ.2.2 → (∀ j, j < i → σ'.2.1 42 (60 * t + j) = 0) → (∀ c, (c < 60 * t ∨ 60 * t + n ≤ c) → σ'.2.1 42 c = σ.2.1 42 c) → L_X7_reset_17 l e Φ (nI t) (nI n) (nI i) σ' by
    refine this n 0 _ (by omega) (fun p h1 h2 j => by rw [ui_1, if_neg (fun c => h2 c.1), ui_1, if_neg (fun c => h1 c.1)]) (fun t' ht' => ?_) rfl (fun j hj => by omega) (fun c _ => rfl)
    rw [ui_1, if_neg (fun c => absurd c.1 (by decide)), ui_1, ui_1]
    by_cases c : t' = t
    · subst c; rw [if_pos ⟨rfl, rfl⟩, if_pos ⟨rfl, rfl⟩, tp_10, tp_11]; exact ⟨rfl, rfl⟩
    · rw [if_neg (fun z => c z.2), if_neg (fun z => c z.2), tp_o D _ _ _ c, tp_o D _ _ _ c]; exact hR.2.2.2.2.1 t' ht'
  intro d
  induction d with
  | zero =>
    intro i σ' hi ho h1 h2 h3 h4
    have hin : i = n := by omega
    subst hin
    refine B_X7_reset_17 _ _ _ ⟨fun _ => k σ' (hR.tp h2 ho (fun j hj => tp_n D _ _ _ hj) ⟨h1, fun t' i' ht' hi' => ?_⟩), fun q => absurd (nI_le (Nat.le_refl _) (by omega)) q⟩
    unfold itZ
    by_cases c : t' = t
    · subst c; rw [tp_11] at hi'; rw [if_pos rfl]; exact h3 i' hi'
    · rw [tp_o D _ _ _ c] at hi'
      have h60 := (hW.2.2.2.2.2.2.2.2.2.2.2.2.2 t' ht').2.1
      rw [if_neg c, h4 _ (by omega)]; exact hR.2.2.2.2.2 t' i' ht' hi'
  | succ d ih =>
    intro i σ' hi ho h1 h2 h3 h4
    refine B_X7_reset_17 _ _ _ ⟨fun q => absurd q (nI_ge (by omega) (by omega)), fun _ => ⟨fun q => absurd q (nI_ge (a := i) (b := 60) (by omega) (by decide)), fun _ => ?_⟩⟩
    rw [tI60, nI_clamp (by omega), nI_1]
    refine ⟨vp_in_nI (by omega) (by decide), ih (i + 1) _ (by omega) ho h1 h2 (fun j hj => ?_) (fun c hc => ?_)⟩
    · rw [ul_1]
      by_cases c : j = i
      · subst c; rw [if_pos ⟨rfl, rfl⟩]
      · rw [if_neg (fun z => by omega)]; exact h3 j (by omega)
    · rw [ul_1, if_neg (fun z => by omega)]; exact h4 c hc
theorem x_tape {Φ : Int32 → hv_S → Prop} (hR : RX D hb It σ) (hW : hWF D) (x y z : Int32) (k : ∀ σ', RX (tpR D It x y z).2.1 hb (tpR D It x y z).2.2 σ' → Φ (tpR D It x y z).1 σ') : hv_CI l (hv_e1 e) 1 m_X9_tape [.ref 0, .int x, .int y, .int z] σ Φ := by
  unfold tpR at k
  refine B_X9_tape _ _ _ (x_exists x (fun h => ⟨fun q => absurd rfl q, fun _ => ?_⟩) (fun t ht hx => ⟨fun _ => ⟨fun q1 => ⟨fun q => ?_, fun q2 => ⟨fun q => ?_, fun q3 => ⟨fun q4 => ⟨fun q5 => ?_, fun q => ?_⟩, fun q => ?_⟩⟩⟩, fun q => ?_⟩, fun q => absurd q (by decide)⟩))
  · rw [an1_out (by decide) h] at k; exact k σ hR
  · rw [hx, an1_in (by decide) ht, if_neg q1, if_pos (Or.inl q)] at k; exact k σ hR
  · rw [hx, an1_in (by decide) ht, if_neg q1, if_pos (Or.inr (Or.inl q))] at k; exact k σ hR
  · have q6 : ¬ 60 < z := Int32.not_lt.mpr q4
    have q7 : ¬ z < 0 := Int32.not_lt.mpr q5
    rw [hx, an1_in (by decide) ht, if_neg q1, if_neg (fun c => by rcases c with c | c | c; exact q2 c; exact q3 c; exact q6 c), if_neg q7] at k
    subst hx
    rcases i32_cases y with c | ⟨s, hs, rfl⟩
    · exfalso
      have w1 := Int32.lt_iff_toInt_lt.mp c
      have w2 : ¬ y.toInt < (-1 : Int32).toInt := fun q => q2 (Int32.lt_iff_toInt_lt.mpr q)
      rw [show (0 : Int32).toInt = 0 by decide] at w1
      rw [show (-1 : Int32).toInt = -1 by decide] at w2
      exact q1 (Int32.toInt_inj.mp (by rw [show (-1 : Int32).toInt = -1 by decide]; omega))
    · rcases i32_cases z with c | ⟨n, hn, rfl⟩
      · exact absurd c q7
      · have w2 : ¬ 60 < n := fun q => q6 ((nI_ltI (a := 60) (by decide) hn).mpr q)
        rw [nI_toInt hs, nI_toInt hn, Int.toNat_natCast, Int.toNat_natCast] at k
        exact x_reset (s := s + 1) (n := n) hR hW ht (by omega) (nI_pred s).symm k
  · have q7 : ¬ 60 < z := Int32.not_lt.mpr q4
    rw [hx, an1_in (by decide) ht, if_neg q1, if_neg (fun c => by rcases c with c | c | c; exact q2 c; exact q3 c; exact q7 c), if_pos (Int32.not_le.mp q)] at k; exact k σ hR
  · rw [hx, an1_in (by decide) ht, if_neg q1, if_pos (Or.inr (Or.inr (Int32.not_le.mp q)))] at k; exact k σ hR
  · rw [hx, an1_in (by decide) ht, if_pos q] at k
    subst hx
    subst q
    exact x_reset (s := 0) (n := 0) (ss := -1) hR hW ht (by decide) (by decide) k
theorem x_read {Φ : Int64 → hv_S → Prop} (hR : RX D hb It σ) (hW : hWF D) (x y : Int32) (k : Φ (rdA D It x y) σ) : hv_CL l (hv_e1 e) 1 m_X9_read [.ref 0, .int x, .int y] σ Φ := by
  unfold rdA at k
  refine B_X9_read _ _ (x_exists x (fun h => ⟨fun _ => ?_, fun q => absurd rfl q⟩) (fun t ht hx => ⟨fun q => absurd q (by decide), fun _ => ⟨fun q => ?_, fun q1 => ?_⟩⟩))
  · rw [an1_out (by decide) h] at k; exact k
  · rw [hx, an1_in (by decide) ht] at k
    unfold an1 at k
    rw [if_pos (Or.inl q)] at k; exact k
  · rw [hx, an1_in (by decide) ht] at k
    subst hx
    have h60 := (hW.2.2.2.2.2.2.2.2.2.2.2.2.2 t ht).2.1
    rw [nI_clamp (by omega), (hR.2.2.2.2.1 t ht).2]
    refine ⟨vp_in_nI ht (by decide), fun q => ?_, fun q => ?_⟩
    · rcases i32_cases y with c | ⟨i, hi, rfl⟩
      · exact absurd c q1
      · have q2 := (nI_ltI hi (by omega)).mp q
        rw [an1_in (by omega) q2] at k
        refine B_X7_get _ _ ?_
        rw [tI60, nI_clamp (by omega), hR.2.2.2.2.2 t i ht q2]
        exact ⟨vp_in_nI (by omega) (by decide), k⟩
    · unfold an1 at k
      rw [if_pos (Or.inr (Int32.not_lt.mp q))] at k; exact k
theorem x_narrow {Φ : Int64 → hv_S → Prop} {s : Nat} (hs : s ≤ 5) (v : Int64) (k : Φ (nwL s v) σ) : hv_CL l (hv_e1 e) 0 m_X7_narrow [.int (nI s - 1), .long v] σ Φ := by
  have cc : ∀ j, j < 5 → (nI s - 1 = nI j ↔ s = j + 1) := fun j hj => srt_k hs hj
  unfold nwL at k
  refine B_X7_narrow _ _ ⟨fun q => ?_, fun q => ?_, fun q => ?_, fun q => ?_, fun q => ?_, fun q0 q1 q2 q3 q4 => ?_⟩
  · have := (cc 0 (by decide)).mp q; subst this; exact k
  · have := (cc 1 (by decide)).mp q; subst this; exact k
  · have := (cc 2 (by decide)).mp q; subst this; exact k
  · have := (cc 3 (by decide)).mp q; subst this; exact k
  · have := (cc 4 (by decide)).mp q; subst this
    rw [if_neg (by decide), if_neg (by decide), if_neg (by decide), if_pos rfl] at k
    exact ⟨fun c => by rw [if_pos c] at k; exact k, fun c => by rw [if_neg c] at k; exact k⟩
  · rw [if_neg (fun c => q0 ((cc 0 (by decide)).mpr c)), if_neg (fun c => q1 ((cc 1 (by decide)).mpr c)), if_neg (fun c => q2 ((cc 2 (by decide)).mpr c)), if_neg (fun c => q4 ((cc 4 (by decide)).mpr c))] at k
    exact k
theorem RX.it {It' : hT} {σ' : hv_S} (h : RX D hb It σ) (h1 : σ'.1 = σ.1) (h2 : σ'.2.2 = σ.2.2) (hi : ∀ t i, t < 6 → i < D 11 t → σ'.2.1 42 (60 * t + i) = It' t i) : RX D hb It' σ' :=
  h.tp h2 (fun _ _ _ _ => by rw [h1]) (fun _ _ _ => rfl) ⟨fun t ht => by rw [h1]; exact h.2.2.2.2.1 t ht, hi⟩
theorem x_item {Φ : Int32 → hv_S → Prop} (hR : RX D hb It σ) (hW : hWF D) (x y : Int32) (v : Int64) (k : ∀ σ', RX D hb (imR D It x y v).2 σ' → Φ (imR D It x y v).1 σ') : hv_CI l (hv_e1 e) 2 m_X9_item [.ref 0, .int x, .int y, .long v] σ Φ := by
  unfold imR at k
  refine B_X9_item _ _ _ (x_exists x (fun h => ⟨fun q => absurd rfl q, fun _ => ?_⟩) (fun t ht hx => ⟨fun _ => ?_, fun q => absurd q (by decide)⟩))
  · rw [an1_out (by decide) h] at k; exact k σ hR
  · rw [hx, an1_in (by decide) ht] at k
    subst hx
    obtain ⟨h5, h60, h0⟩ := hW.2.2.2.2.2.2.2.2.2.2.2.2.2 t ht
    rw [nI_clamp (by omega), (hR.2.2.2.2.1 t ht).2, (hR.2.2.2.2.1 t ht).1, ne_eq, srt_m1 h5]
    have hv : vp_in (nI t) 6 := vp_in_nI ht (by decide)
    refine ⟨hv, fun q1 => ⟨fun q => ?_, fun q2 => ⟨hv, fun q => ?_, fun q => ?_⟩⟩, fun q => ?_⟩
    · rw [if_neg q1] at k
      unfold an1 at k
      rw [if_pos (Or.inl q)] at k; exact k σ hR
    · rw [if_neg q1] at k
      rcases i32_cases y with c | ⟨i, hi, rfl⟩
      · exact absurd c q2
      · have q3 := (nI_ltI hi (by omega)).mp q
        rw [an1_in (by omega) q3] at k
        refine B_X7_put _ _ _ ?_
        rw [nI_clamp (by omega), (hR.2.2.2.2.1 t ht).1]
        refine ⟨hv, x_narrow h5 v ?_⟩
        rw [tI60, nI_clamp (by omega)]
        refine ⟨vp_in_nI (by omega) (by decide), k _ (hR.it rfl rfl (fun t' i' ht' hi' => ?_))⟩
        have h60' := (hW.2.2.2.2.2.2.2.2.2.2.2.2.2 t' ht').2.1
        show _ = itS It t i (nwL (D 10 t) v) t' i'
        rw [ul_1]
        unfold itS
        by_cases c : t' = t ∧ i' = i
        · rw [if_pos c, if_pos ⟨rfl, by omega⟩]
        · rw [if_neg c, if_neg (fun z => c (by omega))]; exact hR.2.2.2.2.2 t' i' ht' hi'
    · rw [if_neg q1] at k
      unfold an1 at k
      rw [if_pos (Or.inr (Int32.not_lt.mp q))] at k; exact k σ hR
    · rw [if_pos q] at k; exact k σ hR
theorem x_tholds {Φ : Int32 → hv_S → Prop} {t : Nat} (hR : RX D hb It σ) (hW : hWF D) (ht : t < 6) (y v : Int32) (k0 : (y < 0 ∨ v < 0 ∨ D 11 t < y.toInt.toNat + v.toInt.toNat) → Φ 0 σ) (k1 : ∀ i n, i + n ≤ D 11 t → y = nI i → v = nI n → Φ 1 σ) :
    hv_CI l (hv_e1 e) 0 m_X7_holds [.ref 39, .int (nI t), .int y, .int v] σ Φ := by
  have h60 := (hW.2.2.2.2.2.2.2.2.2.2.2.2.2 t ht).2.1
  refine B_X7_holds _ _ _ ⟨fun q => k0 (Or.inl q), fun q1 => ⟨fun q => k0 (Or.inr (Or.inl q)), fun q2 => ?_⟩⟩
  rw [nI_clamp (by omega), (hR.2.2.2.2.1 t ht).2]
  rcases i32_cases y with c | ⟨i, hi, rfl⟩
  · exact absurd c q1
  · rcases i32_cases v with c | ⟨n, hn, rfl⟩
    · exact absurd c q2
    · rw [nI_lZ (by omega), nI_lZ hi, nI_lZ hn, lZ_add, lZ_lt (by omega) (by omega) (by omega) (by omega)]
      rw [nI_toInt hi, nI_toInt hn, Int.toNat_natCast, Int.toNat_natCast] at k0
      exact ⟨vp_in_nI ht (by decide), fun q => k0 (Or.inr (Or.inr (by omega))), fun q => k1 i n (by omega) rfl rfl⟩
theorem x_shift {Φ : Int32 → hv_S → Prop} (hR : RX D hb It σ) (hW : hWF D) (x y z w v : Int32) (k : ∀ σ', RX D hb (sfR D It x y z w v).2 σ' → Φ (sfR D It x y z w v).1 σ') : hv_CI l (hv_e1 e) 2 m_X9_shift [.ref 0, .int x, .int y, .int z, .int w, .int v] σ Φ := by
  unfold sfR at k
  refine B_X9_shift _ _ _ _ _ (x_exists x (fun h => ⟨fun _ => ?_, fun q => absurd rfl q⟩) (fun t ht hx => ⟨fun q => absurd q (by decide), fun _ => x_exists z (fun h => ⟨fun q => absurd rfl q, fun _ => ?_⟩) (fun o ho hz => ⟨fun _ => ?_, fun q => absurd q (by decide)⟩)⟩))
  · rw [an1_out (by decide) h] at k; exact k σ hR
  · rw [hx, an1_in (by decide) ht, an1_out (by decide) h] at k; exact k σ hR
  · rw [hx, an1_in (by decide) ht, hz, an1_in (by decide) ho] at k
    subst hx
    subst hz
    obtain ⟨h5, h60, h0⟩ := hW.2.2.2.2.2.2.2.2.2.2.2.2.2 t ht
    obtain ⟨h5', h60', h0'⟩ := hW.2.2.2.2.2.2.2.2.2.2.2.2.2 o ho
    rw [nI_clamp (by omega), nI_clamp (by omega), (hR.2.2.2.2.1 t ht).1, (hR.2.2.2.2.1 o ho).1, ne_eq, srt_m1 h5, srt_m1 h5', srt_e h5 h5']
    have hv : vp_in (nI t) 6 := vp_in_nI ht (by decide)
    have hv' : vp_in (nI o) 6 := vp_in_nI ho (by decide)
    refine ⟨hv, fun q => ?_, fun q1 => ⟨hv', fun q2 => ⟨hv, hv', fun q3 => ?_, fun q => ?_⟩, fun q => ?_⟩⟩
    · rw [if_pos (Or.inl q)] at k; exact k σ hR
    · rw [if_neg (fun c => c.elim q1 q2), if_neg (fun c => c q3)] at k
      refine x_tholds hR hW ht y v (fun q => ⟨fun _ => ?_, fun c => absurd rfl c⟩) (fun i n hin hy hvv => ⟨fun c => absurd c (by decide), fun _ => x_tholds hR hW ho w v (fun q => ⟨fun c => absurd rfl c, fun _ => ?_⟩) (fun j n' hjn hw hvv' => ⟨fun _ => ?_, fun c => absurd c (by decide)⟩)⟩)
      · rw [if_pos (by rcases q with c | c | c; exact Or.inl c; exact Or.inr (Or.inr (Or.inl c)); exact Or.inr (Or.inr (Or.inr (Or.inl c))))] at k
        exact k σ hR
      · rw [if_pos (by rcases q with c | c | c; exact Or.inr (Or.inl c); exact Or.inr (Or.inr (Or.inl c)); exact Or.inr (Or.inr (Or.inr (Or.inr c))))] at k
        exact k σ hR
      · subst hy
        subst hvv
        subst hw
        have hnn : n' = n := ((nI_eq (by omega) (by omega)).mp hvv').symm
        subst hnn
        rw [nI_toInt (by omega), nI_toInt (by omega), nI_toInt (by omega), Int.toNat_natCast, Int.toNat_natCast, Int.toNat_natCast, if_neg (fun c => by rcases c with c | c | c | c | c; exact nI_pos (by omega) c; exact nI_pos (by omega) c; exact nI_pos (by omega) c; omega; omega)] at k
        refine B_X7_copy _ _ _ _ _ ?_
        rw [tI60, tI60, nI_clamp (by omega), nI_clamp (by omega), nI_clamp (by omega)]
        refine ⟨⟨nI_pos (by omega), nI_pos (by omega), nI_pos (by omega), by omega, by omega⟩, k _ (hR.it rfl rfl (fun t' i' ht' hi' => ?_))⟩
        have h60t := (hW.2.2.2.2.2.2.2.2.2.2.2.2.2 t' ht').2.1
        show (if 42 = 42 then va_cpy (σ.2.1 42) (σ.2.1 42) (nI (60 * t + i)).toNatClampNeg (nI (60 * o + j)).toNatClampNeg (nI n').toNatClampNeg (60 * t' + i') else σ.2.1 42 (60 * t' + i')) = itC It t i o j n' t' i'
        rw [if_pos rfl, nI_clamp (by omega), nI_clamp (by omega), nI_clamp (by omega)]
        unfold itC
        by_cases c : t' = o ∧ j ≤ i' ∧ i' < j + n'
        · rw [if_pos c, pk_cpy_in (dp := 60 * o + j) (n := n') (j := 60 * t' + i') (by omega) (by omega), ← hR.2.2.2.2.2 t (i + (i' - j)) ht (by omega)]
          exact congrArg (σ.2.1 42) (by omega)
        · rw [if_neg c, pk_cpy_out (by omega)]; exact hR.2.2.2.2.2 t' i' ht' hi'
    · rw [if_neg (fun c => c.elim q1 q2), if_pos q] at k; exact k σ hR
    · rw [if_pos (Or.inr q)] at k; exact k σ hR
end TP
-- TABLES
noncomputable def tbS (D : hD) (hb : hB) (It : hT) (m t : Nat) (i : Int) : Nat → Nat → Nat
  | 0, k => k
  | d + 1, k => if i < 0 ∨ (D 11 t : Int) ≤ i + 2 * k + 1 then 100 + k else
    if It t (i.toNat + 2 * k) ≠ lZ (lwZ ((cnV D hb m (D 0 1) 0 none).2 k) (cnV D hb m (D 0 1) 0 none).1 0) ∨ It t (i.toNat + 2 * k + 1) ≠ lZ (lwZ ((cnV D hb m (D 0 1) 0 none).2 k) (cnV D hb m (D 0 1) 0 none).1 1) then k else tbS D hb It m t i d (k + 1)
noncomputable def tbA (D : hD) (hb : hB) (It : hT) (x y z : Int32) : Int32 := an1 6 x (fun t => an1 3 z (fun m => if D 10 t ≠ 0 ∧ D 10 t ≠ 4 then -12 else nI (tbS D hb It m t y.toInt (D 0 0) 0)) (-1)) (-1)
