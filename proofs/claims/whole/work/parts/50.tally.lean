-- the tally, bottom up
def TE (σ σ' : hv_S) : Prop := XE σ σ' ∧ ∀ k, k ≠ 22 → ∀ j, σ'.1 k j = σ.1 k j
theorem TE.refl (σ : hv_S) : TE σ σ := ⟨XE.refl σ, fun _ _ _ => rfl⟩
theorem TE.trans {σ σ' σ'' : hv_S} (h : TE σ σ') (h2 : TE σ' σ'') : TE σ σ'' := ⟨h.1.trans h2.1, fun k hk j => (h2.2 k hk j).trans (h.2 k hk j)⟩
theorem ul_1 (σ : hv_S) (k j : Nat) (v : Int64) (k' j' : Nat) : (hv_ul σ k j v).2.1 k' j' = if k' = k ∧ j' = j then v else σ.2.1 k' j' := rfl
theorem TE.ul {σ : hv_S} {k j : Nat} {v : Int64} (h : ¬ (k < 17 ∨ 35 < k)) : TE σ (hv_ul σ k j v) := ⟨XE.ul h, fun _ _ _ => rfl⟩
theorem spG.te {σ σ' : hv_S} {g : Nat → Nat → Nat} {B : Nat} (h : spG σ g B) (e : TE σ σ') : spG σ' g B := ⟨fun a b ha hb => by rw [e.2 19 (by decide)]; exact h.1 a b ha hb, by rw [e.2 18 (by decide)]; exact h.2.1, fun a ha hq => by rw [e.2 20 (by decide)]; exact h.2.2 a ha hq⟩
theorem row_le {n : Nat} {G : Nat → Nat → Nat} (h : rowT n G) {a b : Nat} (ha : a < n) (hb : b < n) : G a b ≤ 10 := by
  have h1 := sumI_item (f := fun b => (G a b : Int)) hb (fun j _ => by omega)
  rw [h a ha] at h1
  omega
section TA
variable {l : Launch} {e : hv_Ev} {σ : hv_S} {n R : Nat} {G : Nat → Nat → Nat}
theorem x_listHeard {Φ : Int32 → hv_S → Prop} (hn : n ≤ 8) (h17 : σ.1 1 7 = nI n) (hR : R < 2 ^ n)
    (k : ∀ σ', TE σ σ' → σ'.2 = σ.2 → (∀ r, r < pop n R → σ'.1 22 r = nI (hdL R n r)) → Φ (nI (pop n R)) σ') : hv_CI l (hv_e1 e) 0 m_X6_listHeard [.ref 21, .int (nI R)] σ Φ := by
  have hR31 : R < 2 ^ 31 := Nat.lt_of_lt_of_le hR (Nat.pow_le_pow_right (by decide) (by omega))
  refine B_X6_listHeard _ ?_
  suffices ∀ d i σ', i + d = n → TE σ σ' → σ'.2 = σ.2 → (∀ r, r < pop i R → σ'.1 22 r = nI (hdL R i r)) → L_X6_listHeard_4 l e Φ (nI R) (nI (pop i R)) (nI i) σ' by
    exact this n 0 σ (by omega) (TE.refl σ) rfl (fun r hr => absurd hr (Nat.not_lt_zero _))
  intro d
  induction d with
  | zero =>
    intro i σ' hi hT h2 hh
    have hin : i = n := by omega
    subst hin
    exact B_X6_listHeard_4 _ _ _ ⟨fun _ => k σ' hT h2 hh, fun q => absurd (by rw [hT.2 1 (by decide), h17]; exact nI_le (Nat.le_refl _) (by omega)) q⟩
  | succ d ih =>
    intro i σ' hi hT h2 hh
    have hpi := pop_le R i
    refine B_X6_listHeard_4 _ _ _ ⟨fun q => absurd q (by rw [hT.2 1 (by decide), h17]; exact nI_ge (by omega) (by omega)), fun _ => ⟨fun q => ?_, fun q => ⟨vp_in_nI (by omega) (by decide), ?_⟩⟩⟩
    · have q1 := (bt_0 hR31 (by omega)).mp q
      have e1 : pop (i + 1) R = pop i R := by rw [pop_s, q1]; rfl
      rw [nI_1]
      have := ih (i + 1) σ' (by omega) hT h2 (fun r hr => by
        rw [e1] at hr
        rw [hh r hr]
        show _ = nI (if R.testBit i = true ∧ r = pop i R then i else hdL R i r)
        rw [if_neg (fun z => by rw [q1] at z; exact absurd z.1 (by decide))])
      rwa [e1] at this
    · have q1 : R.testBit i = true := by
        cases c : R.testBit i with
        | true => rfl
        | false => exact absurd ((bt_0 hR31 (by omega)).mpr c) q
      have e1 : pop (i + 1) R = pop i R + 1 := by rw [pop_s, if_pos q1]
      rw [nI_1, nI_1, nI_clamp (by omega), ← e1]
      refine ih (i + 1) _ (by omega) (hT.trans ⟨XE.ui (by decide), fun k' hk' j => by rw [ui_1, if_neg (fun z => hk' z.1)]⟩) h2 (fun r hr => ?_)
      rw [ui_1]
      show _ = nI (if R.testBit i = true ∧ r = pop i R then i else hdL R i r)
      by_cases c : r = pop i R
      · rw [if_pos ⟨rfl, c⟩, if_pos ⟨q1, c⟩]
      · rw [if_neg (fun z => c z.2), if_neg (fun z => c z.2)]
        exact hh r (by omega)
def rwI (σ : hv_S) (p k : Nat) (A : Nat → Nat → Int) : Prop := ∀ l i, l < p → k ≤ i → i ≤ p → σ.2.1 (24 + l) i = lZ (A l i)
theorem x_fillRows {Φ : hv_S → Prop} (hn : n ≤ 8) (hG : rowT n G) (hg : spG σ (fun a b => if a < n then G a b else 0) 0) (hh : ∀ r, r < pop n R → σ.1 22 r = nI (hdL R n r))
    (k : ∀ σ', TE σ σ' → σ'.1 = σ.1 → rwI σ' (pop n R) 0 (fun l i => cH G R n i l) → (∀ l j, ¬ (24 ≤ l ∧ l < 32) → σ'.2.1 l j = σ.2.1 l j) → Φ σ') : hv_CV l (hv_e1 e) 0 m_X6_fillRows [.ref 21, .int (nI (pop n R))] σ Φ := by
  have hp : pop n R ≤ n := pop_le R n
  refine B_X6_fillRows _ ?_
  suffices ∀ d r σ', r + d = pop n R → TE σ σ' → σ'.1 = σ.1 → (∀ l i, l < r → i ≤ pop n R → σ'.2.1 (24 + l) i = lZ (cH G R n i l)) → (∀ l j, ¬ (24 ≤ l ∧ l < 32) → σ'.2.1 l j = σ.2.1 l j) → L_X6_fillRows_2 l e Φ (nI (pop n R)) (nI r) σ' by
    exact this (pop n R) 0 σ (by omega) (TE.refl σ) rfl (fun l i hl => by omega) (fun _ _ _ => rfl)
  intro d
  induction d with
  | zero =>
    intro r σ' hr hT h1 hrw ho
    exact B_X6_fillRows_2 _ _ ⟨fun _ => k σ' hT h1 (fun l i hl _ hi => hrw l i (by omega) hi) ho, fun q => absurd (nI_le (by omega) (by omega)) q⟩
  | succ d ih =>
    intro r σ' hr hT h1 hrw ho
    refine B_X6_fillRows_2 _ _ ⟨fun q => absurd q (nI_ge (by omega) (by omega)), fun _ => ?_⟩
    suffices ∀ f c σ2, c + f = pop n R → TE σ σ2 → σ2.1 = σ.1 → (∀ l i, (l < r ∧ i ≤ pop n R ∨ l = r ∧ i < c) → σ2.2.1 (24 + l) i = lZ (cH G R n i l)) → (∀ l j, ¬ (24 ≤ l ∧ l < 32) → σ2.2.1 l j = σ.2.1 l j) → L_X6_fillRows_9 l e Φ (nI (pop n R)) (nI r) (nI c) σ2 by
      exact this (pop n R) 0 σ' (by omega) hT h1 (fun l i q => by
        rcases q with q | q
        · exact hrw l i q.1 q.2
        · omega) ho
    intro f
    induction f with
    | zero =>
      intro c σ2 hc hT2 h12 hrw2 ho2
      have hcp : c = pop n R := by omega
      refine B_X6_fillRows_9 _ _ _ ⟨fun _ => ⟨vp_in_nI (by omega) (by decide), vp_in_nI (by omega) (by decide), ?_⟩, fun q => absurd (nI_le (by omega) (by omega)) q⟩
      rw [nI_clamp (by omega), nI_clamp (by omega), nI_1]
      refine ih (r + 1) _ (by omega) (hT2.trans (TE.ul (by omega))) h12 (fun l i hl hi => ?_) (fun l j hl => by rw [ul_1, if_neg (fun z => by omega)]; exact ho2 l j hl)
      rw [ul_1]
      by_cases q : 24 + l = 24 + r ∧ i = pop n R
      · rw [if_pos q, q.2]; unfold cH; rw [if_pos rfl]; rfl
      · rw [if_neg q]
        refine hrw2 l i ?_
        by_cases q2 : l = r
        · right; exact ⟨q2, by omega⟩
        · left; omega
    | succ f ihf =>
      intro c σ2 hc hT2 h12 hrw2 ho2
      obtain ⟨a1, a2, -⟩ := hd_in (show c < pop n R by omega)
      obtain ⟨b1, b2, -⟩ := hd_in (show r < pop n R by omega)
      have hv8 : vp_in (nI r) 8 := vp_in_nI (by omega) (by decide)
      have hv8c : vp_in (nI c) 8 := vp_in_nI (by omega) (by decide)
      have hv9 : vp_in (nI c) 9 := vp_in_nI (by omega) (by decide)
      refine B_X6_fillRows_9 _ _ _ ⟨fun q => absurd q (nI_ge (by omega) (by omega)), fun _ => ⟨hv8, fun q => ?_, fun q => ?_⟩⟩
      · have hrc : r ≠ c := fun z => q (by rw [z])
        rw [nI_clamp (by omega), nI_clamp (by omega), nI_1, h12, hh c (by omega), hh r (by omega)]
        have e2 : nI (hdL R n c) * 8 + nI (hdL R n r) = nI (hdL R n c * 8 + hdL R n r) := by simp only [lI, pk_mul, nI_add]
        rw [e2, nI_clamp (by omega), hg.1 _ _ (by omega) (by omega)]
        simp only [if_pos a1]
        have hle := row_le hG a1 b1
        refine ⟨hv8c, hv8, vp_in_nI (by omega) (by decide), hv9, ?_⟩
        refine ihf (c + 1) _ (by omega) (hT2.trans (TE.ul (by omega))) h12 (fun l i hli => ?_) (fun l j hl => by rw [ul_1, if_neg (fun z => by omega)]; exact ho2 l j hl)
        rw [ul_1]
        by_cases q3 : 24 + l = 24 + r ∧ i = c
        · have q4 : l = r := by omega
          rw [if_pos q3, q3.2, q4, nnI_lZ (by omega)]
          unfold cH
          rw [if_neg (by omega), if_neg hrc]
        · rw [if_neg q3]
          refine hrw2 l i ?_
          rcases hli with z | z
          · exact Or.inl z
          · right; exact ⟨z.1, by omega⟩
      · have hrc : r = c := (nI_eq (by omega) (by omega)).mp q
        rw [nI_clamp (by omega), nI_clamp (by omega), nI_1]
        refine ⟨hv9, ihf (c + 1) _ (by omega) (hT2.trans (TE.ul (by omega))) h12 (fun l i hli => ?_) (fun l j hl => by rw [ul_1, if_neg (fun z => by omega)]; exact ho2 l j hl)⟩
        rw [ul_1]
        by_cases q3 : 24 + l = 24 + r ∧ i = c
        · have q4 : l = c := by omega
          rw [if_pos q3, q3.2, q4]
          unfold cH
          rw [if_neg (by omega), if_pos rfl]; rfl
        · rw [if_neg q3]
          refine hrw2 l i ?_
          rcases hli with z | z
          · exact Or.inl z
          · right; exact ⟨z.1, by omega⟩
/-- one row cleared by another -/
theorem x_clear {Φ : hv_S → Prop} {p k r : Nat} {d : Int} {A : Nat → Nat → Int} (hp : p ≤ 8) (hr : r < p) (hk : k < p) (hne : r ≠ k) (hd : 0 < d) (hd7 : d ≤ 10000000) (hrr : ∀ i, k ≤ i → i ≤ p → σ.2.1 (24 + r) i = lZ (A r i)) (hrk : ∀ i, k ≤ i → i ≤ p → σ.2.1 (24 + k) i = lZ (A k i))
    (hx : ∀ i, k + 1 ≤ i → i ≤ p → A k k * A r i - A r k * A k i = d * elS k d A r i ∧ -128000000000 ≤ elS k d A r i ∧ elS k d A r i ≤ 128000000000)
    (hk2 : ∀ σ', TE σ σ' → σ'.1 = σ.1 → (∀ i, k + 1 ≤ i → i ≤ p → σ'.2.1 (24 + r) i = lZ (elS k d A r i)) → (∀ l i, l ≠ 24 + r → σ'.2.1 l i = σ.2.1 l i) → Φ σ') : hv_CV l (hv_e1 e) 0 m_X6_clear [.ref (24 + r), .ref (24 + k), .int (nI k), .int (nI p), .long (lZ d)] σ Φ := by
  have hr8 : vp_in (nI r) 8 := vp_in_nI (by omega) (by decide)
  have hk8 : vp_in (nI k) 8 := vp_in_nI (by omega) (by decide)
  have m1 := hv_rowp hr8
  have m2 := hv_rowp hk8
  have m3 := hv_rows hr8
  have m4 := hv_rows hk8
  rw [nI_clamp (by omega)] at m1 m2 m3 m4
  refine B_X6_clear _ _ m1 m2 m3 m4 _ _ _ ?_
  have hv9 : vp_in (nI k) 9 := vp_in_nI (by omega) (by decide)
  have hd0 : ¬ lZ d = 0 := fun q => by
    have := (lZ_eq (a := d) (b := 0) (by omega) (by omega) (by decide) (by decide)).mp q
    omega
  rw [nI_clamp (by omega), hrr k (Nat.le_refl k) (by omega), hrk k (Nat.le_refl k) (by omega), nI_1]
  refine ⟨hv9, hv9, fun _ => ?_, fun q => absurd q hd0⟩
  suffices ∀ f i σ', i + f = p + 1 → k + 1 ≤ i → TE σ σ' → σ'.1 = σ.1 → (∀ j, k + 1 ≤ j → j < i → σ'.2.1 (24 + r) j = lZ (elS k d A r j)) → (∀ j, i ≤ j → j ≤ p → σ'.2.1 (24 + r) j = lZ (A r j)) → (∀ l j, l ≠ 24 + r → σ'.2.1 l j = σ.2.1 l j) → L_X6_clear_23 l e (24 + r) (24 + k) Φ (nI p) (lZ d) (lZ (A r k)) (lZ (A k k)) (nI i) σ' by
    exact this (p - k) (k + 1) σ (by omega) (Nat.le_refl _) (TE.refl σ) rfl (fun j h1 h2 => by omega) (fun j h1 h2 => hrr j (by omega) h2) (fun _ _ _ => rfl)
  intro f
  induction f with
  | zero =>
    intro i σ' hi hki hT h1 g1 g2 g3
    exact B_X6_clear_23 _ _ m1 m2 m3 m4 _ _ _ _ _ ⟨fun _ => hk2 σ' hT h1 (fun j a1 a2 => g1 j a1 (by omega)) g3, fun q => absurd (nI_lt (by omega) (by omega)) q⟩
  | succ f ih =>
    intro i σ' hi hki hT h1 g1 g2 g3
    have hv : vp_in (nI i) 9 := vp_in_nI (by omega) (by decide)
    refine B_X6_clear_23 _ _ m1 m2 m3 m4 _ _ _ _ _ ⟨fun q => absurd q (nI_nlt (by omega) (by omega)), fun _ => ⟨hv, hv, hd0, hv, ?_⟩⟩
    obtain ⟨x1, x2, x3⟩ := hx i hki (by omega)
    have b1 : -9223372036854775808 ≤ d * elS k d A r i ∧ d * elS k d A r i < 9223372036854775808 := by
      have y1 : d * elS k d A r i ≤ d * 128000000000 := Int.mul_le_mul_of_nonneg_left x3 (by omega)
      have y2 : d * (-128000000000) ≤ d * elS k d A r i := Int.mul_le_mul_of_nonneg_left x2 (by omega)
      omega
    rw [nI_clamp (by omega), nI_1, g2 i (Nat.le_refl i) (by omega), g3 (24 + k) i (by omega), hrk i (by omega) (by omega), lZ_mul, lZ_mul, lZ_sub, x1, lZ_div hd (by omega) b1.1 b1.2 (by omega) (by omega)]
    refine ih (i + 1) _ (by omega) (by omega) (hT.trans (TE.ul (by omega))) h1 (fun j a1 a2 => ?_) (fun j a1 a2 => ?_) (fun l j hl => ?_)
    · rw [ul_1]
      by_cases q : j = i
      · rw [if_pos ⟨rfl, q⟩, q]
      · rw [if_neg (fun z => q z.2)]; exact g1 j a1 (by omega)
    · rw [ul_1, if_neg (fun z => by omega)]; exact g2 j (by omega) a2
    · rw [ul_1, if_neg (fun z => hl z.1)]; exact g3 l j hl
theorem x_unroll {Φ : Int64 → hv_S → Prop} {p : Nat} {c : Nat → Nat → Int} (hp : p ≤ 8) (hm : mmx p c 8) (hr : rwI σ p 0 (fun l i => c i l))
    (k : ∀ σ', TE σ σ' → σ'.1 = σ.1 → (∀ l, l < p → σ'.2.1 (24 + l) p = lZ ((elR c p).2 l p)) → (∀ l j, ¬ (24 ≤ l ∧ l < 32) → σ'.2.1 l j = σ.2.1 l j) → Φ (lZ (elR c p).1) σ') : hv_CL l (hv_e1 e) 1 m_X6_unroll [.ref 21, .int (nI p)] σ Φ := by
  refine B_X6_unroll _ ?_
  suffices ∀ f i σ', i + f = p → TE σ σ' → σ'.1 = σ.1 → rwI σ' p i (elR c i).2 → (∀ l j, ¬ (24 ≤ l ∧ l < 32) → σ'.2.1 l j = σ.2.1 l j) → L_X6_unroll_5 l e Φ (nI p) (lZ (elR c i).1) (nI i) σ' by
    exact this p 0 σ (by omega) (TE.refl σ) rfl hr (fun _ _ _ => rfl)
  intro f
  induction f with
  | zero =>
    intro i σ' hi hT h1 hrw ho
    have hip : i = p := by omega
    subst hip
    exact B_X6_unroll_5 _ _ _ ⟨fun _ => k σ' hT h1 (fun l hl => hrw l i hl (Nat.le_refl i) (Nat.le_refl i)) ho, fun q => absurd (nI_le (Nat.le_refl _) (by omega)) q⟩
  | succ f ih =>
    intro i σ' hi hT h1 hrw ho
    obtain ⟨e1, s1⟩ := el_all hm i (by omega)
    obtain ⟨e2, s2⟩ := el_all hm (i + 1) (by omega)
    have hpv := sg_piv hm s1 e1 (show i < p by omega)
    have hpb := sg_bound s1 (by omega) (by decide) (by decide) (show i < p by omega) (Nat.le_refl i) (by omega)
    have hd7 := pw10' i (by omega)
    have hx := (el_step e1 (by omega) (by have := s1.1; omega) (by omega)).2
    refine B_X6_unroll_5 _ _ _ ⟨fun q => absurd q (nI_ge (by omega) (by omega)), fun _ => ⟨vp_in_nI (by omega) (by decide), vp_in_nI (by omega) (by decide), ?_⟩⟩
    rw [nI_clamp (by omega), hrw i i (by omega) (Nat.le_refl i) (by omega)]
    refine ⟨fun _ => ?_, fun q => absurd ((lZ_lt (a := 0) (by decide) (by decide) (by omega) (by omega)).mpr hpv) q⟩
    suffices ∀ g r σ2, r + g = p → TE σ σ2 → σ2.1 = σ.1 → (∀ l j, l < p → (l < r → i + 1 ≤ j) → i ≤ j → j ≤ p → σ2.2.1 (24 + l) j = lZ (if l < r then elS i (elR c i).1 (elR c i).2 l j else (elR c i).2 l j)) → (∀ j, i ≤ j → j ≤ p → σ2.2.1 (24 + i) j = lZ ((elR c i).2 i j)) → (∀ l j, ¬ (24 ≤ l ∧ l < 32) → σ2.2.1 l j = σ.2.1 l j) → L_X6_unroll_35 l e Φ (nI p) (lZ (elR c i).1) (nI i) (lZ ((elR c i).2 i i)) (nI r) σ2 by
      exact this p 0 σ' (by omega) hT h1 (fun l j hl _ hj hjp => by rw [if_neg (by omega)]; exact hrw l j hl hj hjp) (fun j hj hjp => hrw i j (by omega) hj hjp) ho
    intro g
    induction g with
    | zero =>
      intro r σ2 hr2 hT2 h12 hw hwi ho2
      refine B_X6_unroll_35 _ _ _ _ _ ⟨fun _ => ?_, fun q => absurd (nI_le (by omega) (by omega)) q⟩
      rw [nI_1]
      refine ih (i + 1) σ2 (by omega) hT2 h12 (fun l j hl hj hjp => ?_) ho2
      have := hw l j hl (fun _ => hj) (by omega) hjp
      rw [if_pos (by omega)] at this
      exact this
    | succ g ihg =>
      intro r σ2 hr2 hT2 h12 hw hwi ho2
      refine B_X6_unroll_35 _ _ _ _ _ ⟨fun q => absurd q (nI_ge (by omega) (by omega)), fun _ => ⟨fun q => ?_, fun q => ?_⟩⟩
      · have hri : r = i := (nI_eq (by omega) (by omega)).mp q
        rw [nI_1]
        refine ihg (r + 1) σ2 (by omega) hT2 h12 (fun l j hl hlj hj hjp => ?_) hwi ho2
        by_cases q2 : l = r
        · rw [if_pos (by omega), q2, hri, hwi j hj hjp]
          unfold elS
          rw [if_pos rfl]
        · have := hw l j hl (fun z => hlj (by omega)) hj hjp
          rw [this]
          by_cases q3 : l < r
          · rw [if_pos q3, if_pos (by omega)]
          · rw [if_neg q3, if_neg (by omega)]
      · have hri : r ≠ i := fun z => q (by rw [z])
        rw [nI_clamp (by omega), nI_clamp (by omega), nI_1]
        refine ⟨vp_in_nI (by omega) (by decide), vp_in_nI (by omega) (by decide), ?_⟩
        refine x_clear (A := (elR c i).2) hp (by omega) (by omega) hri s1.1 (by have := s1.2.1; omega) (fun j hj hjp => by
          have := hw r j (by omega) (fun z => by omega) hj hjp
          rw [if_neg (by omega)] at this
          exact this) hwi (fun j hj hjp => ⟨hx r j (by omega) hri hj hjp, sg_bound s2 (by omega) (by decide) (by decide) (show r < p by omega) hj hjp⟩) (fun σ3 hT3 h13 w1 w2 => ?_)
        refine ihg (r + 1) σ3 (by omega) (hT2.trans hT3) (h13.trans h12) (fun l j hl hlj hj hjp => ?_) (fun j hj hjp => by rw [w2 _ _ (by omega)]; exact hwi j hj hjp) (fun l j hl => by rw [w2 l j (by omega)]; exact ho2 l j hl)
        by_cases q2 : l = r
        · rw [if_pos (by omega), q2]
          exact w1 j (hlj (by omega)) hjp
        · rw [w2 _ _ (by omega)]
          have := hw l j hl (fun z => hlj (by omega)) hj hjp
          rw [this]
          by_cases q3 : l < r
          · rw [if_pos q3, if_pos (by omega)]
          · rw [if_neg q3, if_neg (by omega)]
end TA
