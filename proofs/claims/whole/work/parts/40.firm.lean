-- layFirm, lay
def hL (D : hD) (m w S : Nat) (gt : Option (Nat × Nat)) : hEH := match gt with
  | none => ehS S (ehD D m w)
  | some p => ehG p.1 p.2 (ehS S (ehD D m w))
def gI1 (gt : Option (Nat × Nat)) : Int32 := match gt with
  | none => -1
  | some p => nI p.1
def gI2 (gt : Option (Nat × Nat)) : Int32 := match gt with
  | none => -1
  | some p => nI p.2
def gtW (n : Nat) (gt : Option (Nat × Nat)) : Prop := ∀ p, gt = some p → p.1 < n ∧ p.2 < n ∧ p.1 ≠ p.2
theorem nI_ne_m1 {a : Nat} (h : a < 2 ^ 31) : ¬ nI a = -1 := by
  intro q
  have : (nI a).toInt = (-1 : Int32).toInt := by rw [q]
  rw [nI_toInt h, show (-1 : Int32).toInt = -1 by decide] at this
  omega
theorem ehD_cases {D : hD} (hW : hWF D) {m a w : Nat} (hm : m < 3) (ha : a < D 0 0) : (¬ (w < D 2 (8 * m + a) ∧ 2 ≤ D 1 (8 * m + a)) ∧ ehD D m w a = (1, 9, 9, 0)) ∨ ((w < D 2 (8 * m + a) ∧ 2 ≤ D 1 (8 * m + a)) ∧ ehD D m w a = (D 1 (8 * m + a), D 3 (8 * m + a), D 4 (8 * m + a), D 5 (8 * m + a))) := by
  unfold ehD
  by_cases c : w < D 2 (8 * m + a) ∧ 2 ≤ D 1 (8 * m + a)
  · exact Or.inr ⟨c, if_pos c⟩
  · exact Or.inl ⟨c, if_neg c⟩
theorem ehD_W {D : hD} (hW : hWF D) {m a : Nat} (hm : m < 3) (ha : a < D 0 0) (k2 : 2 ≤ D 1 (8 * m + a)) : (D 1 (8 * m + a) = 2 ∧ D 3 (8 * m + a) < D 0 0 ∧ D 3 (8 * m + a) ≠ a ∧ D 5 (8 * m + a) = 10) ∨ (D 1 (8 * m + a) = 3 ∧ D 3 (8 * m + a) < D 0 0 ∧ D 3 (8 * m + a) ≠ a ∧ D 4 (8 * m + a) < D 0 0 ∧ D 4 (8 * m + a) ≠ a ∧ D 3 (8 * m + a) ≠ D 4 (8 * m + a) ∧ D 5 (8 * m + a) = 10) ∨ (D 1 (8 * m + a) = 4 ∧ D 3 (8 * m + a) < D 0 0 ∧ D 3 (8 * m + a) ≠ a ∧ D 4 (8 * m + a) < D 0 0 ∧ D 4 (8 * m + a) ≠ a ∧ D 3 (8 * m + a) ≠ D 4 (8 * m + a) ∧ 1 ≤ D 5 (8 * m + a) ∧ D 5 (8 * m + a) ≤ 9) ∨ D 1 (8 * m + a) = 5 := by
  have hn := hW.1
  have hd := hW.2.2.2.2.2.2.2.2.2.1 (8 * m + a) (by omega)
  unfold hnd at hd
  rw [show (8 * m + a) % 8 = a by omega] at hd
  omega
theorem ehW_G {P : hPF} {h : hEH} {g t : Nat} (base : ehW P h) (g2 : t < P.1) (g3 : t ≠ g) : ehW P (ehG g t h) := by
  intro a ha
  by_cases c : a = g
  · have e : ehG g t h a = (2, t, 9, 10) := if_pos c
    rw [e]
    exact Or.inr (Or.inl ⟨rfl, g2, fun q => g3 (by rw [← c]; exact q), rfl⟩)
  · have e : ehG g t h a = h a := if_neg c
    rw [e]; exact base a ha
theorem hL_W {D : hD} (hW : hWF D) {hb : hB} {m w S : Nat} {gt : Option (Nat × Nat)} (hm : m < 3) (hg : gtW (D 0 0) gt) : ehW (pfD D hb m) (hL D m w S gt) := by
  have base : ehW (pfD D hb m) (ehS S (ehD D m w)) := by
    intro a ha
    have ha : a < D 0 0 := ha
    unfold ehS
    by_cases c : S.testBit a = true
    · rw [if_pos c]; exact Or.inl rfl
    · rw [if_neg c]
      rcases ehD_cases (w := w) hW hm ha with ⟨-, q⟩ | ⟨q1, q⟩
      · rw [q]; exact Or.inl rfl
      · rw [q]; exact Or.inr (ehD_W hW hm ha q1.2)
  unfold hL
  cases gt with
  | none => exact base
  | some p =>
    obtain ⟨g1, g2, g3⟩ := hg p rfl
    exact ehW_G base g2 (fun q => g3 q.symm)
theorem hL_O {D : hD} (hW : hWF D) {m w S : Nat} {gt : Option (Nat × Nat)} (hm : m < 3) : ehO D m (hL D m w S gt) := by
  have hn := hW.1
  have key : ∀ a, a < D 0 0 → isO (ehS S (ehD D m w)) a = true → (ehS S (ehD D m w) a).2.1 = D 3 (8 * m + a) ∧ (ehS S (ehD D m w) a).2.2.1 = D 4 (8 * m + a) ∧ (ehS S (ehD D m w) a).2.1 < D 0 0 ∧ (ehS S (ehD D m w) a).2.2.1 < D 0 0 ∧ (ehS S (ehD D m w) a).2.1 ≠ a ∧ (ehS S (ehD D m w) a).2.2.1 ≠ a := by
    intro a ha ho
    rw [isO_t] at ho
    unfold ehS at ho ⊢
    by_cases c : S.testBit a = true
    · rw [if_pos c] at ho; exact absurd ho (by decide)
    · rw [if_neg c] at ho ⊢
      rcases ehD_cases (w := w) hW hm ha with ⟨-, q⟩ | ⟨q1, q⟩
      · rw [q] at ho; exact absurd ho (by decide)
      · rw [q] at ho ⊢
        have ho : D 1 (8 * m + a) = 3 := ho
        have := ehD_W hW hm ha q1.2
        show D 3 (8 * m + a) = D 3 (8 * m + a) ∧ D 4 (8 * m + a) = D 4 (8 * m + a) ∧ D 3 (8 * m + a) < D 0 0 ∧ D 4 (8 * m + a) < D 0 0 ∧ D 3 (8 * m + a) ≠ a ∧ D 4 (8 * m + a) ≠ a
        omega
  intro a ha ho
  unfold hL at ho ⊢
  cases gt with
  | none => exact key a ha ho
  | some p =>
    have ho : isO (ehG p.1 p.2 (ehS S (ehD D m w))) a = true := ho
    by_cases c : a = p.1
    · rw [isO_t] at ho
      unfold ehG at ho
      rw [if_pos c] at ho; exact absurd ho (by show ¬ (2 = 3); decide)
    · have e1 : ehG p.1 p.2 (ehS S (ehD D m w)) a = ehS S (ehD D m w) a := if_neg c
      have ho2 : isO (ehS S (ehD D m w)) a = true := by unfold isO at ho ⊢; rw [e1] at ho; exact ho
      have := key a ha ho2
      show (ehG p.1 p.2 (ehS S (ehD D m w)) a).2.1 = _ ∧ (ehG p.1 p.2 (ehS S (ehD D m w)) a).2.2.1 = _ ∧ (ehG p.1 p.2 (ehS S (ehD D m w)) a).2.1 < _ ∧ (ehG p.1 p.2 (ehS S (ehD D m w)) a).2.2.1 < _ ∧ (ehG p.1 p.2 (ehS S (ehD D m w)) a).2.1 ≠ a ∧ (ehG p.1 p.2 (ehS S (ehD D m w)) a).2.2.1 ≠ a
      rw [e1]
      exact this
def gi (P : hPF) (h : hEH) (i a b : Nat) : Nat := if a < i ∧ isO h a = false then G0 P h a b else 0
section WF
variable {l : Launch} {e : hv_Ev} {σ : hv_S} {D : hD} {hb : hB} {It : hT} {m w S : Nat} {gt : Option (Nat × Nat)}
theorem gi_grow {P : hPF} {h : hEH} {i : Nat} (ho : isO h i = false) (a b : Nat) : grow (gi P h i) i (G0 P h i) a b = gi P h (i + 1) a b := by
  unfold grow gi
  by_cases ea : a = i
  · subst ea; simp [ho]
  · simp [ea, show a < i + 1 ↔ a < i by omega]
theorem gi_gad {P : hPF} {h : hEH} {i t x : Nat} (ho : isO h i = false) (hG : ∀ b, G0 P h i b = pt t x b) (a b : Nat) : gad (gi P h i) i t x a b = gi P h (i + 1) a b := by
  rw [← gi_grow ho]
  unfold gad grow
  by_cases ea : a = i
  · subst ea
    rw [if_pos rfl, hG]
    unfold pt gi
    by_cases eb : b = t <;> simp [eb]
  · simp [ea]
theorem msk_step {p : Nat → Bool} {i : Nat} (h : p i = false) : msk p (i + 1) = msk p i := by
  show msk p i + (if p i = true then 2 ^ i else 0) = _
  rw [h]; rfl
theorem msk_stepT {p : Nat → Bool} {i : Nat} (h : p i = true) : msk p i ||| 2 ^ i = msk p (i + 1) := by
  show _ = msk p i + (if p i = true then 2 ^ i else 0)
  rw [h, if_pos rfl]
  have hz := Nat.two_pow_add_eq_or_of_lt (msk_lt p i) 1
  rw [Nat.mul_one] at hz
  rw [Nat.or_comm, ← hz, Nat.add_comm]
theorem x_layFirm {Φ : hv_S → Prop} (hR : RX D hb It σ) (hm : m < 3) (hW : hWF D) (hw : w ≤ 99) (hS : S < 256) (hg : gtW (D 0 0) gt)
    (k : ∀ σ', XE σ σ' → spB σ' (D 0 0) m (ordM (pfD D hb m) (hL D m w S gt)) → spG σ' (gF (pfD D hb m) (hL D m w S gt)) 0 → Φ σ') : hv_CV l (hv_e1 e) 3 m_X5_layFirm [.ref 18, .int (nI m), .int (nI w), .int (nI S), .int (gI1 gt), .int (gI2 gt)] σ Φ := by
  have hn := hW.1
  have p8 : 2 ^ D 0 0 ≤ 2 ^ 8 := Nat.pow_le_pow_right (by decide) hn
  refine B_X5_layFirm _ _ _ _ _ (j_fill (n := 64) hp_19 hs_19 (by decide) (fun σ1 a1 a2 a3 => j_fill (n := 8) hp_20 hs_20 (by decide) (fun σ2 b1 b2 b3 => ?_)))
  have hk : ∀ k' j, k' ≠ 18 → k' ≠ 19 → k' ≠ 20 → σ2.1 k' j = σ.1 k' j := fun k' j h1 h2 h3 => by
    rw [b2 k' j h3, a2 k' j h2]; simp [ui_1, h1]
  have h18 : ∀ j, σ2.1 18 j = (hv_ui (hv_ui (hv_ui (hv_ui (hv_ui σ 18 8 (nI m * 8)) 18 7 (nI m)) 18 6 (((1 : Int32) <<< (σ.1 1 7 &&& 31)) - 1)) 18 4 0) 18 5 0).1 18 j := fun j => by
    rw [b2 18 j (by decide), a2 18 j (by decide)]
  have hX0 : XE σ σ2 := by
    refine ⟨by rw [b3, a3]; rfl, fun k' hk' => ⟨fun j => hk k' j (by omega) (by omega) (by omega), fun j => by rw [b3, a3]; rfl⟩⟩
  have hone : ((1 : Int32) <<< (σ.1 1 7 &&& 31)) - 1 = nI (2 ^ D 0 0 - 1) := by
    rw [hR.1.1, one_shl (by omega), show (1 : Int32) = nI 1 from rfl, pk_sub (Nat.two_pow_pos _)]
  suffices ∀ d i σ', i + d = D 0 0 → XE σ σ' → spB σ' (D 0 0) m (msk (isO (hL D m w S gt)) i) → spG σ' (gi (pfD D hb m) (hL D m w S gt) i) 0 → L_X5_layFirm_57 l e Φ (nI w) (nI S) (gI1 gt) (gI2 gt) (nI i) σ' by
    refine this (D 0 0) 0 σ2 (by omega) hX0 ⟨?_, ?_, ?_, ?_⟩ ⟨fun a b ha hb' => ?_, ?_, fun a ha _ => ?_⟩
    · rw [h18]; simp only [ui_1]; simp only [lI, pk_mul]; rw [Nat.mul_comm]; rfl
    · rw [h18]; simp [ui_1]
    · rw [h18, ← hone]; simp [ui_1]
    · rw [h18]; simp only [ui_1]; rfl
    · rw [b2 19 _ (by decide), a1 _ (by omega)]; unfold gi; rfl
    · rw [h18]
      have : msk (fun a => decide (0 < gi (pfD D hb m) (hL D m w S gt) 0 a a)) 8 = 0 := by
        refine tb_ext (n := 8) (msk8 _) (Nat.two_pow_pos 8) (fun j hj => ?_)
        rw [mskI _ j hj, Nat.zero_testBit]; simp [gi]
      rw [this]; simp only [ui_1]; rfl
    · rw [b1 a ha]
      have : msk (fun b => decide (b ≠ a ∧ 0 < gi (pfD D hb m) (hL D m w S gt) 0 a b)) 8 = 0 := by
        refine tb_ext (n := 8) (msk8 _) (Nat.two_pow_pos 8) (fun j hj => ?_)
        rw [mskI _ j hj, Nat.zero_testBit]; simp [gi]
      rw [this]; rfl
  intro d
  induction d with
  | zero =>
    intro i σ' hi hX hB hgi
    have hin : i = D 0 0 := by omega
    subst hin
    have hR' := hR.of hX
    refine B_X5_layFirm_57 _ _ _ _ _ ⟨fun _ => k σ' hX hB hgi, fun q => absurd (by rw [hR'.1.1]; exact nI_le (Nat.le_refl _) (by omega)) q⟩
  | succ d ih =>
    intro i σ' hi hX hB hgi
    have hR' := hR.of hX
    have hi8 : i < D 0 0 := by omega
    -- behind a row that is laid
    have hrow : isO (hL D m w S gt) i = false → ∀ σ1, SE σ' σ1 → spG σ1 (gi (pfD D hb m) (hL D m w S gt) (i + 1)) 0 → L_X5_layFirm_57 l e Φ (nI w) (nI S) (gI1 gt) (gI2 gt) (nI (i + 1)) σ1 := fun ho σ1 hS1 hg1 =>
      ih (i + 1) σ1 (by omega) (hX.trans hS1.1) (by rw [msk_step ho]; exact hB.of hS1) hg1
    refine B_X5_layFirm_57 _ _ _ _ _ ⟨fun q => absurd q (by rw [hR'.1.1]; exact nI_ge (by omega) (by omega)), fun _ => ?_⟩
    rw [nI_1]
    have e8 : σ'.1 18 8 + nI i = nI (8 * m + i) := by rw [hB.1, nI_add]
    -- it isn't the giver
    have hng : hL D m w S gt i = ehS S (ehD D m w) i → ((nI S >>> (nI i &&& 31)) &&& 1 ≠ 0 → hv_CV l (hv_e1 e) 0 m_X5_stay [.ref 18, .int (nI i), .int 10] σ' (fun s7 => L_X5_layFirm_57 l e Φ (nI w) (nI S) (gI1 gt) (gI2 gt) (nI (i + 1)) s7)) ∧ ((nI S >>> (nI i &&& 31)) &&& 1 = 0 → hv_CI l (hv_e1 e) 0 m_X2_isSelf [.ref 1, .int (σ'.1 18 8 + nI i), .int (nI w)] σ' (fun v11 s10 => ((v11 = 0 → (vp_in (σ'.1 18 8 + nI i) 24 ∧ ((s10.1 4 (σ'.1 18 8 + nI i).toNatClampNeg ≠ 3 → hv_CV l (hv_e1 e) 2 m_X5_layHand [.ref 18, .int (nI i), .int (σ'.1 18 8 + nI i)] s10 (fun s13 => L_X5_layFirm_57 l e Φ (nI w) (nI S) (gI1 gt) (gI2 gt) (nI (i + 1)) s13)) ∧ (s10.1 4 (σ'.1 18 8 + nI i).toNatClampNeg = 3 → L_X5_layFirm_57 l e Φ (nI w) (nI S) (gI1 gt) (gI2 gt) (nI (i + 1)) (hv_ui s10 18 5 ((s10.1 18 5) ||| ((1 : Int32) <<< (nI i &&& 31)))))))) ∧ (¬ v11 = 0 → hv_CV l (hv_e1 e) 0 m_X5_stay [.ref 18, .int (nI i), .int 10] s10 (fun s16 => L_X5_layFirm_57 l e Φ (nI w) (nI S) (gI1 gt) (gI2 gt) (nI (i + 1)) s16))))) := by
      intro hh
      have hself : hL D m w S gt i = (1, 9, 9, 0) → hv_CV l (hv_e1 e) 0 m_X5_stay [.ref 18, .int (nI i), .int 10] σ' (fun s7 => L_X5_layFirm_57 l e Φ (nI w) (nI S) (gI1 gt) (gI2 gt) (nI (i + 1)) s7) := fun h1 => by
        have ho : isO (hL D m w S gt) i = false := isO_f.mpr (by rw [h1]; decide)
        refine x_stay (x := 10) hgi (by omega) (by decide) (fun σ1 hS1 hg1 => hrow ho σ1 hS1 (hg1.congr (fun a b _ _ => gi_gad ho (fun b => G0_1 (by rw [h1]) b) a b)))
      refine ⟨fun q => hself ?_, fun q => ?_⟩
      · rw [hh]; unfold ehS
        rw [if_pos]
        cases c : S.testBit i with
        | true => rfl
        | false => exact absurd ((bt_0 (by omega) (by omega)).mpr c) q
      · have q1 := (bt_0 (by omega) (by omega)).mp q
        have hh2 : hL D m w S gt i = ehD D m w i := by rw [hh]; unfold ehS; rw [if_neg (by rw [q1]; decide)]
        rw [e8]
        have hc : 8 * m + i < 24 := by omega
        refine x_isSelf hR' hW hc (by omega) (fun c => ⟨fun _ => ?_, fun q => absurd rfl q⟩) (fun c => ⟨fun q => absurd q (by decide), fun _ => hself ?_⟩)
        · rw [nI_clamp (by omega), (hR'.1.2.2.2 _ hc).2.1]
          have hh3 : hL D m w S gt i = (D 1 (8 * m + i), D 3 (8 * m + i), D 4 (8 * m + i), D 5 (8 * m + i)) := by rw [hh2]; unfold ehD; rw [if_pos c]
          have hk5 := (hW.2.2.2.2.2.2.2.2.2.1 _ hc).1
          refine ⟨vp_in_nI hc (by decide), fun q => ?_, fun q => ?_⟩
          · have q3 : D 1 (8 * m + i) ≠ 3 := fun w2 => q (by rw [w2]; rfl)
            have ho : isO (hL D m w S gt) i = false := isO_f.mpr (by rw [hh3]; exact q3)
            refine x_layHand (h := hL D m w S gt) hR' hm hW hB hgi hi8 (fun b _ => by unfold gi; rw [if_neg (fun c2 => Nat.lt_irrefl _ c2.1)]) hh3 (by rw [hh3]; show D 1 _ = 2 ∨ D 1 _ = 4 ∨ D 1 _ = 5; omega) (fun σ1 hS1 hg1 => hrow ho σ1 hS1 (hg1.congr (fun a b _ _ => gi_grow ho a b)))
          · have q3 : D 1 (8 * m + i) = 3 := (nI_eq (b := 3) (by omega) (by decide)).mp q
            have ho : isO (hL D m w S gt) i = true := isO_t.mpr (by rw [hh3]; exact q3)
            rw [hB.2.2.2, one_shl (by omega), tI_or, msk_stepT ho]
            refine ih (i + 1) _ (by omega) (hX.trans (XE.ui (by decide))) ⟨?_, ?_, ?_, ?_⟩ ((show spG (hv_ui σ' 18 5 (nI (msk (isO (hL D m w S gt)) (i + 1)))) (gi (pfD D hb m) (hL D m w S gt) i) 0 from ⟨fun a b ha hb' => ?_, ?_, fun a ha hq => ?_⟩).congr (fun a b _ _ => ?_))
            · rw [ui_1, if_neg (fun c => by omega)]; exact hB.1
            · rw [ui_1, if_neg (fun c => by omega)]; exact hB.2.1
            · rw [ui_1, if_neg (fun c => by omega)]; exact hB.2.2.1
            · rw [ui_1, if_pos ⟨rfl, rfl⟩]
            · rw [ui_1, if_neg (fun c => by omega)]; exact hgi.1 a b ha hb'
            · rw [ui_1, if_neg (fun c => by omega)]; exact hgi.2.1
            · rw [ui_1, if_neg (fun c => by omega)]; exact hgi.2.2 a ha hq
            · unfold gi
              by_cases ea : a = i
              · subst ea; simp [ho]
              · simp [show a < i + 1 ↔ a < i by omega]
        · rw [hh2]; unfold ehD; rw [if_neg c]
    cases hgt : gt with
    | none =>
      rw [hgt] at hng
      refine ⟨fun _ => hng rfl, fun q => absurd q (nI_ne_m1 (by omega))⟩
    | some p =>
      obtain ⟨g1, g2, g3⟩ := hg p hgt
      rw [hgt] at hng hrow hgi
      refine ⟨fun q => hng ?_, fun q => ?_⟩
      · have : i ≠ p.1 := fun c => q (by rw [c]; rfl)
        show ehG p.1 p.2 (ehS S (ehD D m w)) i = _
        unfold ehG
        rw [if_neg this]
      · have ei : i = p.1 := (nI_eq (by omega) (by omega)).mp q
        have hh : hL D m w S (some p) i = (2, p.2, 9, 10) := by
          show ehG p.1 p.2 (ehS S (ehD D m w)) i = _
          unfold ehG
          rw [if_pos ei]
        have ho : isO (hL D m w S (some p)) i = false := isO_f.mpr (by rw [hh]; show 2 ≠ 3; decide)
        have hG : ∀ b, G0 (pfD D hb m) (hL D m w S (some p)) i b = pt (tg (pfD D hb m) i p.2) 10 b := fun b => by
          rw [G0_2 (by rw [hh]) b, hh]
        exact x_send (x := 10) (D := D) (hb := hb) (It := It) (m := m) hR' hm hB hgi (by omega) (show p.2 < 8 by omega) (fun c => g3 (by omega)) (by decide) (fun σ1 hS1 hg1 => hrow ho σ1 hS1 (hg1.congr (fun a b _ _ => gi_gad ho hG a b)))
/-- where the voices go, behind lay -/
theorem x_lay {Φ : hv_S → Prop} (hR : RX D hb It σ) (hm : m < 3) (hW : hWF D) (hw : w ≤ 99) (hS : S < 256) (hg : gtW (D 0 0) gt)
    (k : ∀ σ', XE σ σ' → spB σ' (D 0 0) m (ordM (pfD D hb m) (hL D m w S gt)) → spG σ' (Gn (pfD D hb m) (GG (pfD D hb m) (D 0 6) (hL D m w S gt))) 0 → Φ σ') : hv_CV l (hv_e1 e) 4 m_X5_lay [.ref 18, .int (nI m), .int (nI w), .int (nI S), .int (gI1 gt), .int (gI2 gt)] σ Φ := by
  refine B_X5_lay _ _ _ _ _ (x_layFirm hR hm hW hw hS hg (fun σ1 hX1 hB1 hg1 => ?_))
  exact x_layOrders (hR.of hX1) hm hW (hL_O hW hm) hB1 hg1 (fun σ2 hS2 hg2 => k σ2 (hX1.trans hS2.1) (hB1.of hS2) hg2)
end WF
