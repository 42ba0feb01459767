-- think, back, pass; of, taken, count; settle
def thD (D : hD) (c s y : Nat) : hD := aU (aU D 6 c s) 7 c y
theorem th_n (D : hD) (c s y : Nat) {i : Nat} (h : i < 6 ∨ 7 < i) (j : Nat) : thD D c s y i j = D i j := by unfold thD; rw [aU_n _ _ _ _ (by omega), aU_n _ _ _ _ (by omega)]
theorem th_o (D : hD) (c s y : Nat) {c' : Nat} (h : c' ≠ c) (i : Nat) : thD D c s y i c' = D i c' := by unfold thD; rw [aU_o _ _ _ _ h, aU_o _ _ _ _ h]
theorem th_6 (D : hD) (c s y : Nat) : thD D c s y 6 c = s := by unfold thD; rw [aU_n _ _ _ _ (by decide), aU_s]
theorem th_7 (D : hD) (c s y : Nat) : thD D c s y 7 c = y := by unfold thD; rw [aU_s]
def thR (D : hD) (x y z w : Int32) : Int32 × hD := an1 (D 0 0) x (fun a => an1 3 y (fun m => if w < 0 ∨ 10 < w then (-2, D) else (nI (D 7 (8 * m + a) * 100 + D 6 (8 * m + a)), thD D (8 * m + a) w.toInt.toNat (if z = 0 then 0 else 1))) (-1, D)) (-1, D)
def bkR (D : hD) (x y z : Int32) : Int32 × hD := an1 (D 0 0) x (fun a => an1 3 y (fun m => if z < 0 ∨ 100 < z then (-2, D) else (nI (D 2 (8 * m + a)), aU D 2 (8 * m + a) z.toInt.toNat)) (-1, D)) (-1, D)
def psR (D : hD) (x : Int32) : Int32 × hD := if x < 1 ∨ 20 < x ∨ 99 < D 0 1 + x.toInt.toNat then (-2, D) else (nI (D 0 1 + x.toInt.toNat), aU D 0 1 (D 0 1 + x.toInt.toNat))
def ofA (D : hD) (x y z : Int32) : Int32 := an1 (D 0 0) x (fun a => an1 3 y (fun m => if z = 0 then nI (D 1 (8 * m + a)) else if z = 1 then nI (D 2 (8 * m + a)) else if z = 2 then nmX (D 3 (8 * m + a)) else if z = 3 then nmX (D 4 (8 * m + a)) else if z = 4 then nI (D 5 (8 * m + a)) else if z = 5 then nI (D 7 (8 * m + a)) else if z = 6 then nI (D 6 (8 * m + a)) else -1) (-1)) (-1)
def tkA (D : hD) (x y z : Int32) : Int32 := if z < 0 ∨ 5 < z then -2 else an1 (D 0 0) x (fun a => an1 3 y (fun m => if z = 0 ∨ z = nI (D 1 (8 * m + a)) ∨ z = 2 ∧ 2 < D 1 (8 * m + a) then nI (D 1 (8 * m + a)) else -12) (-11)) (-11)
def cnA (D : hD) (x : Int32) : Int32 := if x = 0 then nI (D 0 0) else if x = 1 then nI (D 0 2) else if x = 2 then nI (D 0 7) else if x = 3 then nI (D 0 1) else if x = 4 then nI (D 9 0) else -2
theorem i32_in2 {x : Int32} {n : Nat} (h : ¬ (x < 0 ∨ nI n < x)) (hn : n < 2 ^ 31) : ∃ k, k ≤ n ∧ x = nI k := i32_in (fun c => h (Or.inl c)) (fun c => h (Or.inr c)) hn
theorem thR_W {D : hD} (hW : hWF D) (x y z w : Int32) : hWF (thR D x y z w).2 := by
  have hn := hW.1
  refine an1_W (by omega) (fun a ha => an1_W (by decide) (fun m hm => ?_) hW) hW
  split
  · exact hW
  · next h =>
    obtain ⟨s, hs, rfl⟩ := i32_in2 (n := 10) h (by decide)
    rw [nI_toInt (by omega), Int.toNat_natCast]
    refine hWF_c hW ha (fun i hi j => th_n D _ _ _ (by omega) j) (fun c' hc' i => th_o D _ _ _ hc' i) ?_
    show hnd (thD D (8 * m + a) s (if z = 0 then 0 else 1)) (8 * m + a)
    have h1 := hW.2.2.2.2.2.2.2.2.2.1 (8 * m + a) (by omega)
    unfold hnd at *
    rw [th_6, th_7, th_n D _ _ _ (by decide), th_n D _ _ _ (by decide), th_n D _ _ _ (by decide), th_n D _ _ _ (by decide), th_n D _ _ _ (by decide), th_n D _ _ _ (by decide)]
    refine ⟨h1.1, h1.2.1, h1.2.2.1, hs, ?_, h1.2.2.2.2.2⟩
    split <;> omega
theorem bkR_W {D : hD} (hW : hWF D) (x y z : Int32) : hWF (bkR D x y z).2 := by
  have hn := hW.1
  refine an1_W (by omega) (fun a ha => an1_W (by decide) (fun m hm => ?_) hW) hW
  split
  · exact hW
  · next h =>
    obtain ⟨s, hs, rfl⟩ := i32_in2 (n := 100) h (by decide)
    rw [nI_toInt (by omega), Int.toNat_natCast]
    refine hWF_c hW ha (fun i hi j => aU_n D _ _ _ (by omega) j) (fun c' hc' i => aU_o D _ _ _ hc' i) ?_
    show hnd (aU D 2 (8 * m + a) s) (8 * m + a)
    have h1 := hW.2.2.2.2.2.2.2.2.2.1 (8 * m + a) (by omega)
    unfold hnd at *
    rw [aU_s, aU_n D _ _ _ (by decide), aU_n D _ _ _ (by decide), aU_n D _ _ _ (by decide), aU_n D _ _ _ (by decide), aU_n D _ _ _ (by decide), aU_n D _ _ _ (by decide), aU_n D _ _ _ (by decide)]
    exact ⟨h1.1, hs, h1.2.2⟩
theorem psR_W {D : hD} (hW : hWF D) (x : Int32) : hWF (psR D x).2 := by
  unfold psR
  split
  · exact hW
  · next h =>
    have h3 : ¬ 99 < D 0 1 + x.toInt.toNat := fun c => h (Or.inr (Or.inr c))
    obtain ⟨g0, g1, g2, g3, g4, g5, g6, g7, g8, g9, g10, g11, g12, g13⟩ := hW
    exact ⟨g0, by show D 0 1 + x.toInt.toNat ≤ 99; omega, g2, g3, g4, g5, g6, g7, g8, g9, g10, g11, g12, g13⟩
section DF
variable {l : Launch} {e : hv_Ev} {σ : hv_S} {D : hD} {hb : hB} {It : hT}
theorem x_opinion {Φ : Int32 → hv_S → Prop} {a m : Nat} (hR : RX D hb It σ) (hW : hWF D) (ha : a < 8) (hm : m < 3) (k : Φ (nI (D 7 (8 * m + a))) σ) : hv_CI l (hv_e1 e) 0 m_X2_opinion [.ref 1, .int (nI a), .int (nI m)] σ Φ := by
  refine B_X2_opinion _ _ ⟨vp_in_nI hm (by decide), ?_⟩
  have hy := yeM_lt D m
  have h7 := (hW.2.2.2.2.2.2.2.2.2.1 (8 * m + a) (by omega)).2.2.2.2.1
  have e1 : σ.1 2 m = nI (yeM D m) := hR.1.2.2.1 m hm
  rw [nI_clamp (by omega), e1, bt_v (by omega) (by omega)]
  have e2 : (yeM D m).testBit a = (D 7 (8 * m + a) == 1) := mskI _ a ha
  rw [e2]
  rcases (show D 7 (8 * m + a) = 0 ∨ D 7 (8 * m + a) = 1 by omega) with q | q <;> rw [q] at k ⊢ <;> exact k
theorem x_form {Φ : hv_S → Prop} {a m s : Nat} {z : Int32} (hR : RX D hb It σ) (ha : a < 8) (hm : m < 3)
    (k : ∀ σ', σ'.2 = σ.2 → (∀ p j, p ≠ 2 → p ≠ 3 → σ'.1 p j = σ.1 p j) → rxH (thD D (8 * m + a) s (if z = 0 then 0 else 1)) σ' → Φ σ') : hv_CV l (hv_e1 e) 1 m_X2_form [.ref 1, .int (nI a), .int (nI m), .int z, .int (nI s)] σ Φ := by
  have hy := yeM_lt D m
  have e1 : σ.1 2 m = nI (yeM D m) := hR.1.2.2.1 m hm
  have hv : vp_in (nI m) 3 := vp_in_nI hm (by decide)
  have fin : ∀ y : Nat, (y = (if z = 0 then 0 else 1)) → ∀ Y : Nat, Y < 2 ^ 8 → (∀ i, i < 8 → Y.testBit i = if i = a then y == 1 else (yeM D m).testBit i) → hv_CI l (hv_e1 e) 0 m_X9_cell [.int (nI a), .int (nI m)] (hv_ui σ 2 m (nI Y)) (fun v5 s4 => (vp_in v5 24 ∧ Φ (hv_ui s4 3 v5.toNatClampNeg (nI s)))) := fun y hyz Y hY hYb => by
    refine B_X9_cell _ _ ?_
    rw [cellI, nI_clamp (by omega)]
    refine ⟨vp_in_nI (by omega) (by decide), k _ rfl (fun p j h2 h3 => by rw [ui_1, if_neg (fun c => h3 c.1), ui_1, if_neg (fun c => h2 c.1)]) ⟨?_, ?_, fun m' hm' => ?_, fun c hc => ?_⟩⟩
    · exact hR.1.1
    · exact hR.1.2.1
    · rw [ui_1, if_neg (fun c => absurd c.1 (by decide)), ui_1, ← hyz]
      by_cases q : m' = m
      · subst q
        rw [if_pos ⟨rfl, rfl⟩]
        refine congrArg nI (tb_ext (n := 8) hY (msk8 _) (fun i hi => ?_))
        rw [hYb i hi, mskI _ i hi]
        by_cases c : i = a
        · subst c; rw [if_pos rfl, th_7]
        · rw [if_neg c, th_o D _ _ _ (by omega)]; exact mskI _ i hi
      · rw [if_neg (fun c => q c.2), hR.1.2.2.1 m' hm']
        refine congrArg nI (msk_ext (fun i hi => ?_))
        rw [th_o D _ _ _ (by omega)]
    · obtain ⟨g3, g4, g5, g6, g7, g8⟩ := hR.1.2.2.2 c hc
      rw [th_n (i := 1) D _ _ _ (by decide), th_n (i := 2) D _ _ _ (by decide), th_n (i := 3) D _ _ _ (by decide), th_n (i := 4) D _ _ _ (by decide), th_n (i := 5) D _ _ _ (by decide), ui_1]
      refine ⟨?_, g4, g5, g6, g7, g8⟩
      by_cases q : c = 8 * m + a
      · subst q; rw [if_pos ⟨rfl, rfl⟩, th_6]
      · rw [if_neg (fun z => q z.2), th_o D _ _ _ q]; exact g3
  refine B_X2_form _ _ _ _ ?_
  rw [nI_clamp (by omega), e1, one_shl (by omega), mns_I, tI_or]
  have h2a : 2 ^ a < 2 ^ 8 := Nat.pow_lt_pow_right (by decide) ha
  refine ⟨fun q => ⟨hv, hv, fin 0 (if_pos q).symm _ (mns_lt hy _) (fun i hi => ?_)⟩, fun q => ⟨hv, hv, fin 1 (if_neg q).symm _ (Nat.or_lt_two_pow hy h2a) (fun i hi => ?_)⟩⟩
  · rw [mns_b (by omega), tb_2]
    by_cases c : i = a
    · subst c; simp
    · simp [c, show ¬ a = i from fun z => c z.symm]
  · rw [tb_or2]
    by_cases c : i = a
    · subst c; simp
    · simp [c, show ¬ a = i from fun z => c z.symm]
theorem x_think {Φ : Int32 → hv_S → Prop} (hR : RX D hb It σ) (hW : hWF D) (x y z w : Int32) (k : ∀ σ', RX (thR D x y z w).2 hb It σ' → Φ (thR D x y z w).1 σ') : hv_CI l (hv_e1 e) 4 m_X9_think [.ref 0, .int x, .int y, .int z, .int w] σ Φ := by
  have hn := hW.1
  have hW2 := thR_W hW x y z w
  unfold thR at k hW2
  refine B_X9_think _ _ _ _ (x_sits hR hW x (fun h => ⟨fun _ => ?_, fun q => absurd rfl q⟩) (fun a ha hx => ⟨fun q => absurd q (by decide), fun _ => x_isMatter y (fun h => ⟨fun q => absurd rfl q, fun _ => ?_⟩) (fun m hm hy => ⟨fun _ => ?_, fun q => absurd q (by decide)⟩)⟩))
  · rw [an1_out (by omega) h] at k; exact k σ hR
  · rw [hx, an1_in (by omega) ha, an1_out (by omega) h] at k; exact k σ hR
  · rw [hx, an1_in (by omega) ha, hy, an1_in (by omega) hm] at k hW2
    subst hx
    subst hy
    refine ⟨fun q => ?_, fun q => ⟨fun q2 => ?_, fun q2 => ?_⟩⟩
    · rw [if_pos (Or.inl q)] at k; exact k σ hR
    · have q3 : ¬ (w < 0 ∨ 10 < w) := fun c => c.elim q (fun c => (Int32.not_lt.mpr q2) c)
      rw [if_neg q3] at k hW2
      obtain ⟨s, hs, rfl⟩ := i32_in2 (n := 10) q3 (by decide)
      rw [nI_toInt (by omega), Int.toNat_natCast] at k hW2
      refine x_opinion hR hW (by omega) hm (B_X9_cell _ _ ?_)
      rw [cellI, nI_clamp (by omega), (hR.1.2.2.2 (8 * m + a) (by omega)).1]
      refine ⟨vp_in_nI (by omega) (by decide), x_form hR (by omega) hm (fun σ1 h2 ho hH => ?_)⟩
      obtain ⟨D', hD'⟩ : ∃ D', D' = thD D (8 * m + a) s (if z = 0 then 0 else 1) := ⟨_, rfl⟩
      rw [← hD'] at k hH hW2
      have eI : ∀ ks : List Nat, (∀ p, p ∈ ks → p ≠ 2 ∧ p ≠ 3) → eqI ks σ σ1 := fun ks hks p hp j => ho p j (hks p hp).1 (hks p hp).2
      have h22 : σ1.2.2 = σ.2.2 := by rw [h2]
      have hd0 : ∀ i, D' 0 i = D 0 i := fun i => by rw [hD']; exact th_n D _ _ _ (by decide) i
      have hrr : hv_isR (σ1.2.2 15 3) := by
        rw [h22]; rcases hR.2.2.1.1 with ⟨-, c⟩ | ⟨-, c⟩ <;> rw [c]
        · exact Or.inr rfl
        · exact Or.inl rfl
      have hru : rul D' hb (σ1.2.2 15 3) σ1 := by
        rw [h22]
        have h0 := rul_of hR.2.2.1.2.2.1 (σ' := σ1) (fun p hp j => ho p j (by
          rcases hR.2.2.1.1 with ⟨-, c⟩ | ⟨-, c⟩ <;> rw [c] at hp <;> simp at hp <;> omega) (by
          rcases hR.2.2.1.1 with ⟨-, c⟩ | ⟨-, c⟩ <;> rw [c] at hp <;> simp at hp <;> omega))
        unfold rul at h0 ⊢
        rw [hd0, hd0, hd0, hd0]
        exact h0
      refine x_learn (D := D') (hb := hb) (fun c hc => ⟨(hH.2.2.2 c hc).1, (hW2.2.2.2.2.2.2.2.2.2.1 c hc).2.2.2.1⟩) hrr hru hm (fun σ2 hE hM hO => ?_)
      have hE3 : ∀ p j, p ≠ 2 → p ≠ 3 → p ≠ 16 → p ≠ 17 → σ2.1 p j = σ.1 p j := fun p j q2 q3 q16 q17 => by rw [hE.2 p q16 q17, ho p j q2 q3]
      have eI2 : ∀ ks : List Nat, (∀ p, p ∈ ks → p ≠ 2 ∧ p ≠ 3 ∧ p ≠ 16 ∧ p ≠ 17) → eqI ks σ σ2 := fun ks hks p hp j => hE3 p j (hks p hp).1 (hks p hp).2.1 (hks p hp).2.2.1 (hks p hp).2.2.2
      have hbar : ∀ m' a' b', m' ≠ m → m' < 3 → a' < 8 → b' < 8 → bar D' hb m' a' b' = bar D hb m' a' b' := fun m' a' b' h1 h2 h3 h4 => by
        unfold bar
        rw [hD', th_o D _ _ _ (by omega), th_o D _ _ _ (by omega)]
      have e100 : nI (D 7 (8 * m + a)) * 100 + nI (D 6 (8 * m + a)) = nI (D 7 (8 * m + a) * 100 + D 6 (8 * m + a)) := by simp only [lI, pk_mul, nI_add]
      rw [e100]
      have kk : ∀ σ', RX D' hb It σ' → Φ (nI (D 7 (8 * m + a) * 100 + D 6 (8 * m + a))) σ' := k
      refine kk σ2 ⟨rxH_of hH (fun p hp j => hE.2 p (by simp at hp; omega) (by simp at hp; omega) j), ?_, ⟨?_, ?_, ?_, fun m' a' hm' ha' => ?_⟩, ?_, ?_⟩
      · have := rxT_of hR.2.1 (eI2 [9, 10] (by decide))
        rw [hD']; exact this
      · have := hR.2.2.1.1
        unfold rxR at this ⊢
        rw [hE.1, h2]; exact this
      · rw [hE3 15 4 (by decide) (by decide) (by decide) (by decide), hd0]; exact hR.2.2.1.2.1
      · rw [hE.1]; exact rul_le hrr hru hE.2
      · by_cases q : m' = m
        · subst q; exact hM a' ha'
        · rw [hO _ (by omega), ho 16 _ (by decide) (by decide), hR.2.2.1.2.2.2 m' a' hm' ha']
          exact congrArg nI (msk_ext (fun b hb8 => (hbar m' a' b q hm' ha' hb8).symm))
      · have := rxA_of hR.2.2.2.1 (eI2 [37, 38] (by decide))
        rw [hD']; exact this
      · have := rxP_of hR.2.2.2.2 (eI2 [40, 41] (by decide)) (fun j => by rw [hE.1, h2])
        rw [hD']; exact this
    · rw [if_pos (Or.inr (Int32.not_le.mp q2))] at k; exact k σ hR
theorem x_back {Φ : Int32 → hv_S → Prop} (hR : RX D hb It σ) (hW : hWF D) (x y z : Int32) (k : ∀ σ', RX (bkR D x y z).2 hb It σ' → Φ (bkR D x y z).1 σ') : hv_CI l (hv_e1 e) 1 m_X9_back [.ref 0, .int x, .int y, .int z] σ Φ := by
  have hn := hW.1
  unfold bkR at k
  refine B_X9_back _ _ _ (x_sits hR hW x (fun h => ⟨fun _ => ?_, fun q => absurd rfl q⟩) (fun a ha hx => ⟨fun q => absurd q (by decide), fun _ => x_isMatter y (fun h => ⟨fun q => absurd rfl q, fun _ => ?_⟩) (fun m hm hy => ⟨fun _ => ⟨fun q => ?_, fun q => ⟨fun q2 => ?_, fun q2 => ?_⟩⟩, fun q => absurd q (by decide)⟩)⟩))
  · rw [an1_out (by omega) h] at k; exact k σ hR
  · rw [hx, an1_in (by omega) ha, an1_out (by omega) h] at k; exact k σ hR
  · rw [hx, an1_in (by omega) ha, hy, an1_in (by omega) hm, if_pos (Or.inl q)] at k; exact k σ hR
  · have q3 : ¬ (z < 0 ∨ 100 < z) := fun c => c.elim q (fun c => (Int32.not_lt.mpr q2) c)
    rw [hx, an1_in (by omega) ha, hy, an1_in (by omega) hm, if_neg q3] at k
    subst hx
    subst hy
    obtain ⟨s, hs, rfl⟩ := i32_in2 (n := 100) q3 (by decide)
    rw [nI_toInt (by omega), Int.toNat_natCast] at k
    refine B_X9_cell _ _ ?_
    rw [cellI, nI_clamp (by omega), (hR.1.2.2.2 (8 * m + a) (by omega)).2.2.1]
    have ho : ∀ p j, p ≠ 5 → (hv_ui σ 5 (8 * m + a) (nI s)).1 p j = σ.1 p j := fun p j hp => by rw [ui_1, if_neg (fun z => hp z.1)]
    have eI : ∀ ks : List Nat, (∀ p, p ∈ ks → p ≠ 5) → eqI ks σ (hv_ui σ 5 (8 * m + a) (nI s)) := fun ks hks p hp j => ho p j (hks p hp)
    refine ⟨vp_in_nI (by omega) (by decide), vp_in_nI (by omega) (by decide), k _ ⟨⟨hR.1.1, hR.1.2.1, hR.1.2.2.1, fun c hc => ?_⟩, ?_, ?_, ?_, ?_⟩⟩
    · obtain ⟨g3, g4, g5, g6, g7, g8⟩ := hR.1.2.2.2 c hc
      refine ⟨g3, g4, ?_, g6, g7, g8⟩
      rw [ui_1]
      by_cases q : c = 8 * m + a
      · subst q; rw [if_pos ⟨rfl, rfl⟩]; show _ = nI (aU D 2 (8 * m + a) s 2 (8 * m + a)); rw [aU_s]
      · rw [if_neg (fun z => q z.2)]; show _ = nI (aU D 2 (8 * m + a) s 2 c); rw [aU_o _ _ _ _ q]; exact g5
    · exact rxT_of (D := aU D 2 (8 * m + a) s) hR.2.1 (eI _ (by decide))
    · exact rxL_of (D := aU D 2 (8 * m + a) s) hR.2.2.1 (eI _ (by decide)) rfl
    · exact rxA_of (D := aU D 2 (8 * m + a) s) hR.2.2.2.1 (eI _ (by decide))
    · exact rxP_of (D := aU D 2 (8 * m + a) s) hR.2.2.2.2 (eI _ (by decide)) (fun j => rfl)
  · rw [hx, an1_in (by omega) ha, hy, an1_in (by omega) hm, if_pos (Or.inr (Int32.not_le.mp q2))] at k; exact k σ hR
theorem x_pass {Φ : Int32 → hv_S → Prop} (hR : RX D hb It σ) (hW : hWF D) (x : Int32) (k : ∀ σ', RX (psR D x).2 hb It σ' → Φ (psR D x).1 σ') : hv_CI l (hv_e1 e) 0 m_X9_pass [.ref 0, .int x] σ Φ := by
  have hw := hW.2.1
  unfold psR at k
  refine B_X9_pass _ ⟨fun q => ?_, fun q1 => ⟨fun q => ?_, fun q2 => ?_⟩⟩
  · rw [if_pos (Or.inl q)] at k; exact k σ hR
  · rw [if_pos (Or.inr (Or.inl q))] at k; exact k σ hR
  · rcases i32_cases x with c | ⟨n, hn, rfl⟩
    · exact absurd (Int32.lt_trans c (by decide)) q1
    · have h20 : n ≤ 20 := Nat.not_lt.mp (fun c => q2 ((nI_ltI (a := 20) (by decide) hn).mpr c))
      rw [nI_toInt hn, Int.toNat_natCast] at k
      rw [hR.1.2.1, nI_add, show (99 : Int32) = nI 99 from rfl, nI_leI (by omega) (by decide)]
      refine ⟨fun q3 => ?_, fun q3 => ?_⟩
      · rw [if_neg (fun c => by rcases c with c | c | c; exact q1 c; exact q2 c; omega)] at k
        have ho : ∀ p j, p ≠ 1 → (hv_ui σ 1 8 (nI (D 0 1 + n))).1 p j = σ.1 p j := fun p j hp => by rw [ui_1, if_neg (fun z => hp z.1)]
        have eI : ∀ ks : List Nat, (∀ p, p ∈ ks → p ≠ 1) → eqI ks σ (hv_ui σ 1 8 (nI (D 0 1 + n))) := fun ks hks p hp j => ho p j (hks p hp)
        refine k _ ⟨⟨?_, ?_, hR.1.2.2.1, fun c hc => hR.1.2.2.2 c hc⟩, ?_, ?_, ?_, ?_⟩
        · rw [ui_1, if_neg (by decide)]; exact hR.1.1
        · rw [ui_1, if_pos ⟨rfl, rfl⟩]; rfl
        · exact rxT_of (D := aU D 0 1 (D 0 1 + n)) hR.2.1 (eI _ (by decide))
        · exact rxL_of (D := aU D 0 1 (D 0 1 + n)) hR.2.2.1 (eI _ (by decide)) rfl
        · exact rxA_of (D := aU D 0 1 (D 0 1 + n)) hR.2.2.2.1 (eI _ (by decide))
        · exact rxP_of (D := aU D 0 1 (D 0 1 + n)) hR.2.2.2.2 (eI _ (by decide)) (fun j => rfl)
      · rw [if_pos (Or.inr (Or.inr (by omega)))] at k; exact k σ hR
theorem x_of {Φ : Int32 → hv_S → Prop} (hR : RX D hb It σ) (hW : hWF D) (x y z : Int32) (k : Φ (ofA D x y z) σ) : hv_CI l (hv_e1 e) 1 m_X9_of [.ref 0, .int x, .int y, .int z] σ Φ := by
  have hn := hW.1
  unfold ofA at k
  refine B_X9_of _ _ _ (x_sits hR hW x (fun h => ⟨fun _ => ?_, fun q => absurd rfl q⟩) (fun a ha hx => ⟨fun q => absurd q (by decide), fun _ => x_isMatter y (fun h => ⟨fun q => absurd rfl q, fun _ => ?_⟩) (fun m hm hy => ⟨fun _ => ?_, fun q => absurd q (by decide)⟩)⟩))
  · rw [an1_out (by omega) h] at k; exact k
  · rw [hx, an1_in (by omega) ha, an1_out (by omega) h] at k; exact k
  · rw [hx, an1_in (by omega) ha, hy, an1_in (by omega) hm] at k
    subst hx
    subst hy
    refine B_X9_cell _ _ ?_
    rw [cellI, nI_clamp (by omega)]
    obtain ⟨g3, g4, g5, g6, g7, g8⟩ := hR.1.2.2.2 (8 * m + a) (by omega)
    rw [g3, g4, g5, g6, g7, g8]
    have hv : vp_in (nI (8 * m + a)) 24 := vp_in_nI (by omega) (by decide)
    refine ⟨fun q => ⟨hv, ?_⟩, fun q => ⟨hv, ?_⟩, fun q => ⟨hv, ?_⟩, fun q => ⟨hv, ?_⟩, fun q => ⟨hv, ?_⟩, fun q => x_opinion hR hW (by omega) hm ?_, fun q => ⟨hv, ?_⟩, fun q0 q1 q2 q3 q4 q5 q6 => ?_⟩
    · subst q; exact k
    · subst q; exact k
    · subst q; exact k
    · subst q; exact k
    · subst q; exact k
    · subst q; exact k
    · subst q; exact k
    · rw [if_neg q0, if_neg q1, if_neg q2, if_neg q3, if_neg q4, if_neg q5, if_neg q6] at k; exact k
theorem x_taken {Φ : Int32 → hv_S → Prop} (hR : RX D hb It σ) (hW : hWF D) (x y z : Int32) (k : Φ (tkA D x y z) σ) : hv_CI l (hv_e1 e) 1 m_X9_taken [.ref 0, .int x, .int y, .int z] σ Φ := by
  have hn := hW.1
  unfold tkA at k
  refine B_X9_taken _ _ _ ⟨fun q => ?_, fun q1 => ⟨fun q2 => ?_, fun q => ?_⟩⟩
  · rw [if_pos (Or.inl q)] at k; exact k
  · rw [if_neg (fun c => c.elim q1 (fun c => (Int32.not_lt.mpr q2) c))] at k
    refine x_sits hR hW x (fun h => ⟨fun _ => ?_, fun q => absurd rfl q⟩) (fun a ha hx => ⟨fun q => absurd q (by decide), fun _ => x_isMatter y (fun h => ⟨fun q => absurd rfl q, fun _ => ?_⟩) (fun m hm hy => ⟨fun _ => ?_, fun q => absurd q (by decide)⟩)⟩)
    · rw [an1_out (by omega) h] at k; exact k
    · rw [hx, an1_in (by omega) ha, an1_out (by omega) h] at k; exact k
    · rw [hx, an1_in (by omega) ha, hy, an1_in (by omega) hm] at k
      subst hx
      subst hy
      have h5 := (hW.2.2.2.2.2.2.2.2.2.1 (8 * m + a) (by omega)).1
      refine B_X9_cell _ _ ?_
      rw [cellI, nI_clamp (by omega), (hR.1.2.2.2 (8 * m + a) (by omega)).2.1]
      refine ⟨vp_in_nI (by omega) (by decide), fun q => B_X9_taken_69 _ ?_, fun q3 => ⟨fun q => B_X9_taken_69 _ ?_, fun q4 => ⟨fun q => ?_, fun q5 => ⟨fun q => ?_, fun q => B_X9_taken_69 _ ?_⟩⟩⟩⟩
      · rw [if_pos (Or.inl q)] at k; exact k
      · rw [if_pos (Or.inr (Or.inl q))] at k; exact k
      · rw [if_neg (fun c => by rcases c with c | c | c; exact q3 c; exact q4 c; exact q c.1)] at k; exact k
      · have := (nI_leI (b := 2) (by omega) (by decide)).mp q
        rw [if_neg (fun c => by rcases c with c | c | c; exact q3 c; exact q4 c; omega)] at k; exact k
      · have : ¬ D 1 (8 * m + a) ≤ 2 := fun c => q ((nI_leI (b := 2) (by omega) (by decide)).mpr c)
        rw [if_pos (Or.inr (Or.inr ⟨q5, by omega⟩))] at k; exact k
  · rw [if_pos (Or.inr (Int32.not_le.mp q))] at k; exact k
theorem x_count {Φ : Int32 → hv_S → Prop} (hR : RX D hb It σ) (x : Int32) (k : Φ (cnA D x) σ) : hv_CI l (hv_e1 e) 0 m_X9_count [.ref 0, .int x] σ Φ := by
  unfold cnA at k
  refine B_X9_count _ ?_
  rw [hR.1.1, hR.1.2.1, hR.2.2.1.2.1, hR.2.1.1, hR.2.2.2.1.1]
  refine ⟨fun q => ?_, fun q => ?_, fun q => ?_, fun q => ?_, fun q => ?_, fun q0 q1 q2 q3 q4 => ?_⟩
  · subst q; exact k
  · subst q; exact k
  · subst q; exact k
  · subst q; exact k
  · subst q; exact k
  · rw [if_neg q0, if_neg q1, if_neg q2, if_neg q3, if_neg q4] at k; exact k
end DF
