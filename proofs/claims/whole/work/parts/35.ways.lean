-- counting bits, filling rows, the surest, names, ways
def bcx (x1 : Int32) : Int32 :=
  let z1 := (x1 - ((x1.toUInt32 >>> ((1 : Int32).toUInt32 &&& Int32.toUInt32 31)).toInt32 &&& 1431655765))
  let z2 := ((z1 &&& 858993459) + ((z1.toUInt32 >>> ((2 : Int32).toUInt32 &&& Int32.toUInt32 31)).toInt32 &&& 858993459))
  let z3 := ((z2 + (z2.toUInt32 >>> ((4 : Int32).toUInt32 &&& Int32.toUInt32 31)).toInt32) &&& 252645135)
  let z4 := (z3 + (z3.toUInt32 >>> ((8 : Int32).toUInt32 &&& Int32.toUInt32 31)).toInt32)
  let z5 := (z4 + (z4.toUInt32 >>> ((16 : Int32).toUInt32 &&& Int32.toUInt32 31)).toInt32)
  z5 &&& 63
theorem bcx_ok : ∀ S, S < 256 → bcx (nI S) = nI (pop 8 S) := by decide +kernel
theorem j_bitCount {l : Launch} {E : hv_E} {σ : hv_S} {Φ : Int32 → hv_S → Prop} {S : Nat} (hS : S < 256) (h : Φ (nI (pop 8 S)) σ) : hv_CI l E 0 m_J6_bitCount_0f7a4 [.int (nI S)] σ Φ := by
  refine B_J6_bitCount_0f7a4 _ ?_
  rw [← bcx_ok S hS] at h
  intro z1 e1 z2 e2 z3 e3 z4 e4 z5 e5
  subst e1; subst e2; subst e3; subst e4; subst e5
  exact h
theorem j_fill {l : Launch} {E : hv_E} {σ : hv_S} {Φ : hv_S → Prop} {p n : Nat} {v : Int32} (hp : p ∈ hv_pl E) (hs : hv_sh E p = .inr (0, n)) (hn : n < 2 ^ 31)
    (k : ∀ σ', (∀ j, j < n → σ'.1 p j = v) → (∀ k' j, k' ≠ p → σ'.1 k' j = σ.1 k' j) → σ'.2 = σ.2 → Φ σ') : hv_CV l E 0 m_J7_fill_53178 [.ref p, .int v] σ Φ := by
  refine B_J7_fill_53178 p n hp hs _ ?_
  suffices ∀ d i σ', i + d = n → (∀ j, j < i → σ'.1 p j = v) → (∀ k' j, k' ≠ p → σ'.1 k' j = σ.1 k' j) → σ'.2 = σ.2 → L_J7_fill_53178_5 l E p n Φ v (nI i) (nI n) σ' by
    exact this n 0 σ (by omega) (fun j hj => by omega) (fun _ _ _ => rfl) rfl
  intro d
  induction d with
  | zero =>
    intro i σ' hi h1 h2 h3
    have : i = n := by omega
    subst this
    exact B_J7_fill_53178_5 p i hp hs _ _ _ ⟨fun _ => k σ' h1 h2 h3, fun q => absurd (nI_le (Nat.le_refl _) hn) q⟩
  | succ d ih =>
    intro i σ' hi h1 h2 h3
    refine B_J7_fill_53178_5 p n hp hs _ _ _ ⟨fun q => absurd q (nI_ge (by omega) (by omega)), fun _ => ⟨vp_in_nI (by omega) hn, ?_⟩⟩
    rw [nI_clamp (by omega), nI_1]
    refine ih (i + 1) _ (by omega) (fun j hj => ?_) (fun k' j hk => ?_) h3
    · rw [ui_1]
      by_cases q : j = i
      · rw [if_pos ⟨rfl, q⟩]
      · rw [if_neg (fun z => q z.2)]; exact h1 j (by omega)
    · rw [ui_1, if_neg (fun z => hk z.1)]; exact h2 k' j hk
theorem j_filll {l : Launch} {E : hv_E} {σ : hv_S} {Φ : hv_S → Prop} {p n : Nat} {v : Int64} (hp : p ∈ hv_pl E) (hs : hv_sh E p = .inr (1, n)) (hn : n < 2 ^ 31)
    (k : ∀ σ', (∀ j, j < n → σ'.2.1 p j = v) → (∀ k' j, k' ≠ p → σ'.2.1 k' j = σ.2.1 k' j) → σ'.1 = σ.1 → σ'.2.2 = σ.2.2 → Φ σ') : hv_CV l E 0 m_J7_fill_d0a16 [.ref p, .long v] σ Φ := by
  refine B_J7_fill_d0a16 p n hp hs _ ?_
  suffices ∀ d i σ', i + d = n → (∀ j, j < i → σ'.2.1 p j = v) → (∀ k' j, k' ≠ p → σ'.2.1 k' j = σ.2.1 k' j) → σ'.1 = σ.1 → σ'.2.2 = σ.2.2 → L_J7_fill_d0a16_6 l E p n Φ v (nI i) (nI n) σ' by
    exact this n 0 σ (by omega) (fun j hj => by omega) (fun _ _ _ => rfl) rfl rfl
  intro d
  induction d with
  | zero =>
    intro i σ' hi h1 h2 h3 h4
    have : i = n := by omega
    subst this
    exact B_J7_fill_d0a16_6 p i hp hs _ _ _ ⟨fun _ => k σ' h1 h2 h3 h4, fun q => absurd (nI_le (Nat.le_refl _) hn) q⟩
  | succ d ih =>
    intro i σ' hi h1 h2 h3 h4
    refine B_J7_fill_d0a16_6 p n hp hs _ _ _ ⟨fun q => absurd q (nI_ge (by omega) (by omega)), fun _ => ⟨vp_in_nI (by omega) hn, ?_⟩⟩
    rw [nI_clamp (by omega), nI_1]
    refine ih (i + 1) _ (by omega) (fun j hj => ?_) (fun k' j hk => ?_) h3 h4
    · show (if p = p ∧ j = i then v else σ'.2.1 p j) = v
      by_cases q : j = i
      · rw [if_pos ⟨rfl, q⟩]
      · rw [if_neg (fun z => q z.2)]; exact h1 j (by omega)
    · show (if k' = p ∧ j = i then v else σ'.2.1 k' j) = _
      rw [if_neg (fun z => hk z.1)]; exact h2 k' j hk
section WA
variable {l : Launch} {e : hv_Ev} {σ : hv_S} {D : hD} {hb : hB} {It : hT} {m : Nat}
def oI (o : Option Nat) : Int32 := match o with
  | none => -5
  | some b => nI b
theorem x_surestOf {Φ : Int32 → hv_S → Prop} {S : Nat} (hR : RX D hb It σ) (hW : hWF D) (hm : m < 3) (hS : S < 256) (h : Φ (oI (sst (fun a => D 6 (8 * m + a)) (fun a => S.testBit a) (D 0 0))) σ) : hv_CI l (hv_e1 e) 1 m_X2_surestOf [.ref 1, .int (nI m), .int (nI S)] σ Φ := by
  refine B_X2_surestOf _ _ ?_
  have hn : D 0 0 ≤ 8 := hW.1
  have hsu : ∀ c, c < 24 → D 6 c ≤ 10 := fun c hc => (hW.2.2.2.2.2.2.2.2.2.1 c hc).2.2.2.1
  suffices ∀ d i (x4 : Int32), i + d = D 0 0 → (match sst (fun a => D 6 (8 * m + a)) (fun a => S.testBit a) i with | none => x4 = -1 | some b => x4 = nI (D 6 (8 * m + b))) → L_X2_surestOf_9 l e Φ (nI m) (nI S) (oI (sst (fun a => D 6 (8 * m + a)) (fun a => S.testBit a) i)) x4 (nI i) σ by
    exact this (D 0 0) 0 (-1) (by omega) rfl
  intro d
  induction d with
  | zero =>
    intro i x4 hi h4
    have hin : i = D 0 0 := by omega
    subst hin
    exact B_X2_surestOf_9 _ _ _ _ _ ⟨fun _ => h, fun q => absurd (by rw [hR.1.1]; exact nI_le (Nat.le_refl _) (by omega)) q⟩
  | succ d ih =>
    intro i x4 hi h4
    refine B_X2_surestOf_9 _ _ _ _ _ ⟨fun q => absurd q (by rw [hR.1.1]; exact nI_ge (by omega) (by omega)), fun _ => B_X9_cell _ _ ?_⟩
    have e1 : nI m * 8 + nI i = nI (8 * m + i) := by simp only [lI, pk_mul, nI_add]; rw [Nat.mul_comm]
    rw [e1, nI_clamp (by omega)]
    refine ⟨vp_in_nI (by omega) (by decide), ?_⟩
    have hc : 8 * m + i < 24 := by omega
    rw [(hR.1.2.2.2 _ hc).1, nI_1]
    have hq := hsu _ hc
    cases hb2 : S.testBit i with
    | false =>
      have es : sst (fun a => D 6 (8 * m + a)) (fun a => S.testBit a) (i + 1) = sst (fun a => D 6 (8 * m + a)) (fun a => S.testBit a) i := by
        show (if S.testBit i = true then _ else _) = _; rw [hb2]; rfl
      refine ⟨fun _ => ?_, fun q => absurd ((bt_0 (by omega) (by omega)).mpr hb2) q⟩
      have := ih (i + 1) x4 (by omega) (by rw [es]; exact h4)
      rwa [es] at this
    | true =>
      refine ⟨fun q => absurd ((bt_0 (by omega) (by omega)).mp q) (by rw [hb2]; decide), fun _ => ?_⟩
      have es : sst (fun a => D 6 (8 * m + a)) (fun a => S.testBit a) (i + 1) = (match sst (fun a => D 6 (8 * m + a)) (fun a => S.testBit a) i with | none => some i | some b => if D 6 (8 * m + b) < D 6 (8 * m + i) then some i else some b) := by
        show (if S.testBit i = true then _ else _) = _; rw [hb2]; rfl
      cases hss : sst (fun a => D 6 (8 * m + a)) (fun a => S.testBit a) i with
      | none =>
        rw [hss] at h4 es
        have h4 : x4 = -1 := h4
        subst h4
        refine ⟨fun q => absurd q (by
          intro z
          have z2 := Int32.le_iff_toInt_le.mp z
          rw [nI_toInt (by omega), show (-1 : Int32).toInt = -1 by decide] at z2
          omega), fun _ => ?_⟩
        have := ih (i + 1) (nI (D 6 (8 * m + i))) (by omega) (by rw [es])
        rwa [es] at this
      | some b =>
        rw [hss] at h4 es
        have h4 : x4 = nI (D 6 (8 * m + b)) := h4
        subst h4
        have hbi := sst_ok hss
        have hqb := hsu (8 * m + b) (by omega)
        refine ⟨fun q => ?_, fun q => ?_⟩
        · have q1 : ¬ D 6 (8 * m + b) < D 6 (8 * m + i) := Nat.not_lt.mpr ((nI_leI (by omega) (by omega)).mp q)
          have es2 : sst (fun a => D 6 (8 * m + a)) (fun a => S.testBit a) (i + 1) = some b := by rw [es]; exact if_neg q1
          have := ih (i + 1) (nI (D 6 (8 * m + b))) (by omega) (by rw [es2])
          rwa [es2] at this
        · have q1 : D 6 (8 * m + b) < D 6 (8 * m + i) := Nat.lt_of_not_le (fun z => q ((nI_leI (by omega) (by omega)).mpr z))
          have es2 : sst (fun a => D 6 (8 * m + a)) (fun a => S.testBit a) (i + 1) = some i := by rw [es]; exact if_pos q1
          have := ih (i + 1) (nI (D 6 (8 * m + i))) (by omega) (by rw [es2])
          rwa [es2] at this
theorem x_isSelf {Φ : Int32 → hv_S → Prop} {c w : Nat} (hR : RX D hb It σ) (hW : hWF D) (hc : c < 24) (hw : w ≤ 100) (h1 : (w < D 2 c ∧ 2 ≤ D 1 c) → Φ 0 σ) (h2 : ¬ (w < D 2 c ∧ 2 ≤ D 1 c) → Φ 1 σ) : hv_CI l (hv_e1 e) 0 m_X2_isSelf [.ref 1, .int (nI c), .int (nI w)] σ Φ := by
  refine B_X2_isSelf _ _ ?_
  obtain ⟨g1, g2, g3, g4, g5, g6⟩ := hR.1.2.2.2 c hc
  have hh := hW.2.2.2.2.2.2.2.2.2.1 c hc
  have k5 := hh.1
  have k2 := hh.2.1
  have hv : vp_in (nI c) 24 := vp_in_nI hc (by decide)
  rw [nI_clamp (by omega), g2, g3]
  refine ⟨hv, fun q => h2 (fun z => ?_), fun q => ⟨hv, fun q2 => h1 ⟨(nI_ltI (by omega) (by omega)).mp q2, ?_⟩, fun q2 => h2 (fun z => q2 ((nI_ltI (by omega) (by omega)).mpr z.1))⟩⟩
  · have := (nI_leI (a := D 1 c) (b := 1) (by omega) (by decide)).mp q
    omega
  · have : ¬ D 1 c ≤ 1 := fun z => q ((nI_leI (a := D 1 c) (b := 1) (by omega) (by decide)).mpr z)
    omega
end WA
