-- FEEDING
def byN (x : Int32) (k : Nat) : Nat := x.toBitVec.toNat / 2 ^ (8 * k) % 256
def apD (D : hD) (b : Nat) : hD := aU (aU D 8 (D 0 7) b) 0 7 (D 0 7 + 1)
def feL (x : Int32) : Nat → hD → hD
  | 0, D => D
  | k + 1, D => feL x k (apD D (byN x k))
def feR (D : hD) (x y : Int32) : Int32 × hD := if y < 0 ∨ 4 < y then (-2, D) else if 100 < D 0 7 + y.toInt.toNat then (-4, D) else (nI (D 0 7 + y.toInt.toNat), feL x y.toInt.toNat D)
theorem byN_lt (x : Int32) (k : Nat) : byN x k < 256 := Nat.mod_lt _ (by decide)
theorem ap_7 (D : hD) (b : Nat) : apD D b 0 7 = D 0 7 + 1 := by unfold apD; rw [aU_s]
theorem ap_8 (D : hD) (b k : Nat) : apD D b 8 k = if k = D 0 7 then b else D 8 k := by
  unfold apD
  rw [aU_n _ _ _ _ (by decide)]
  by_cases c : k = D 0 7
  · rw [if_pos c, c, aU_s]
  · rw [if_neg c, aU_r _ _ _ _ c]
theorem ap_n (D : hD) (b : Nat) {i j : Nat} (h : i ≠ 8) (h2 : i ≠ 0 ∨ j ≠ 7) : apD D b i j = D i j := by
  unfold apD
  rcases h2 with h2 | h2
  · rw [aU_n _ _ _ _ h2, aU_n _ _ _ _ h]
  · rw [aU_o _ _ _ _ h2, aU_n _ _ _ _ h]
theorem apD_W {D : hD} (hW : hWF D) {b : Nat} (hb : b < 256) (h : D 0 7 < 100) : hWF (apD D b) := by
  obtain ⟨g0, g1, g2, g3, g4, g5, g6, g7, g8, g9, g10, g11, g12, g13⟩ := hW
  refine ⟨g0, g1, g2, g3, g4, g5, g6, g7, by rw [ap_7]; omega, g9, g10, fun k hk => ?_, g12, g13⟩
  rw [ap_7] at hk
  rw [ap_8]
  by_cases c : k = D 0 7
  · rw [if_pos c]; exact hb
  · rw [if_neg c]; exact g11 k (by omega)
theorem feL_W {x : Int32} : ∀ k D, hWF D → D 0 7 + k ≤ 100 → hWF (feL x k D) := by
  intro k
  induction k with
  | zero => intro D h _; exact h
  | succ k ih =>
    intro D h hk
    exact ih _ (apD_W h (byN_lt x k) (by omega)) (by rw [ap_7]; omega)
theorem feR_W {D : hD} (hW : hWF D) (x y : Int32) : hWF (feR D x y).2 := by
  unfold feR
  split
  · exact hW
  · split
    · exact hW
    · next h => exact feL_W _ D hW (by omega)
theorem by_I (x : Int32) {k : Nat} (hk : k < 4) : (x.toUInt32 >>> ((8 * nI k).toUInt32 &&& Int32.toUInt32 31)).toInt32 &&& 255 = nI (byN x k) := by
  have e1 : (8 : Int32) * nI k = nI (8 * k) := by rw [show (8 : Int32) = nI 8 from rfl, pk_mul]
  rw [e1, pk_and _ (m := 255) 8 (by decide), pk_ushr x (nI (8 * k)) (8 * k) (tI_ushc (8 * k) (by omega))]
  rfl
section FE
variable {l : Launch} {e : hv_Ev} {σ : hv_S} {D : hD} {hb : hB} {It : hT}
theorem x_append {Φ : hv_S → Prop} {b : Nat} (hR : RX D hb It σ) (h : D 0 7 < 100) (k : ∀ σ', RX (apD D b) hb It σ' → Φ σ') : hv_CV l (hv_e1 e) 0 m_X1_append [.ref 9, .int (nI b)] σ Φ := by
  refine B_X1_append _ ?_
  rw [hR.2.1.1, nI_clamp (by omega), nI_1]
  have ho : ∀ p, p ≠ 9 → p ≠ 10 → ∀ j, (hv_ui (hv_ui σ 10 (D 0 7) (nI b)) 9 1 (nI (D 0 7 + 1))).1 p j = σ.1 p j := fun p a1 a2 j => by rw [ui_1, if_neg (fun z => a1 z.1), ui_1, if_neg (fun z => a2 z.1)]
  have eI : ∀ ks : List Nat, (∀ p, p ∈ ks → p ≠ 9 ∧ p ≠ 10) → eqI ks σ (hv_ui (hv_ui σ 10 (D 0 7) (nI b)) 9 1 (nI (D 0 7 + 1))) := fun ks hks p hp j => ho p (hks p hp).1 (hks p hp).2 j
  refine ⟨fun q => absurd q (nI_ge (a := D 0 7) (b := 100) h (by decide)), fun _ => ⟨vp_in_nI h (by decide), k _ ⟨rxH_of (D := apD D b) hR.1 (eI _ (by decide)), ⟨?_, fun i hi => ?_⟩, rxL_of (D := apD D b) hR.2.2.1 (eI _ (by decide)) rfl, rxA_of (D := apD D b) hR.2.2.2.1 (eI _ (by decide)), rxP_of (D := apD D b) hR.2.2.2.2 (eI _ (by decide)) (fun j => rfl)⟩⟩⟩
  · rw [ui_1, if_pos ⟨rfl, rfl⟩, ap_7]
  · rw [ap_7] at hi
    rw [ap_8, ui_1, if_neg (fun z => absurd z.1 (by decide)), ui_1]
    by_cases c : i = D 0 7
    · rw [if_pos ⟨rfl, c⟩, if_pos c]
    · rw [if_neg (fun z => c z.2), if_neg c]; exact hR.2.1.2 i (by omega)
theorem x_feed {Φ : Int32 → hv_S → Prop} (hR : RX D hb It σ) (hW : hWF D) (x y : Int32) (k : ∀ σ', RX (feR D x y).2 hb It σ' → Φ (feR D x y).1 σ') : hv_CI l (hv_e1 e) 1 m_X9_feed [.ref 0, .int x, .int y] σ Φ := by
  have hn : D 0 7 ≤ 100 := hW.2.2.2.2.2.2.2.2.1
  unfold feR at k
  refine B_X9_feed _ _ ⟨fun q => ?_, fun q1 => ⟨fun q2 => ?_, fun q => ?_⟩⟩
  · rw [if_pos (Or.inl q)] at k; exact k σ hR
  · have q3 : ¬ (y < 0 ∨ 4 < y) := fun c => c.elim q1 (fun c => (Int32.not_lt.mpr q2) c)
    obtain ⟨n, hn4, rfl⟩ := i32_in2 (n := 4) q3 (by decide)
    rw [if_neg q3, nI_toInt (by omega), Int.toNat_natCast] at k
    rw [hR.2.1.1, nI_add, show (100 : Int32) = nI 100 from rfl, nI_leI (by omega) (by decide)]
    refine ⟨fun q => ?_, fun q => ?_⟩
    · rw [if_neg (by omega)] at k
      suffices ∀ m (D : hD) σ, m ≤ 4 → RX D hb It σ → D 0 7 + m ≤ 100 → (∀ σ', RX (feL x m D) hb It σ' → Φ (nI (D 0 7 + m)) σ') → L_X9_feed_33 l e Φ x (nI m - 1) σ by exact this n D σ hn4 hR (by omega) k
      intro m
      induction m with
      | zero =>
        intro D σ _ hR hd k
        refine B_X9_feed_33 _ _ ⟨fun _ => ?_, fun q => absurd (by decide) q⟩
        rw [hR.2.1.1]; exact k σ hR
      | succ m ih =>
        intro D σ hm hR hd k
        rw [nI_pred]
        refine B_X9_feed_33 _ _ ⟨fun q => absurd q (nI_pos (by omega)), fun _ => ?_⟩
        rw [by_I x (by omega), ← Int32.sub_eq_add_neg]
        refine x_append hR (by omega) (fun σ' hR' => ih _ σ' (by omega) hR' (by rw [ap_7]; omega) (fun σ2 h2 => ?_))
        rw [ap_7, show D 0 7 + 1 + m = D 0 7 + (m + 1) by omega]
        exact k σ2 h2
    · rw [if_pos (by omega)] at k; exact k σ hR
  · rw [if_pos (Or.inr (Int32.not_le.mp q))] at k; exact k σ hR
end FE
