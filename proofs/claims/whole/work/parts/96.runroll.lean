-- THE REFERENCE: voices by where they go
noncomputable def cM (G : Nat → Nat → Nat) (n j i : Nat) : Int := if j = n then (if hrd n G i = true then 10 else 0) else if i = j then 10 else if hrd n G i = true ∧ hrd n G j = true then - (G j i : Int) else 0
theorem cM_n (G : Nat → Nat → Nat) (n i : Nat) : cM G n n i = if hrd n G i = true then 10 else 0 := if_pos rfl
theorem cM_d {G : Nat → Nat → Nat} {n j : Nat} (hj : j < n) : cM G n j j = 10 := by unfold cM; rw [if_neg (by omega), if_pos rfl]
theorem cM_o {G : Nat → Nat → Nat} {n j i : Nat} (hj : j < n) (hne : i ≠ j) : cM G n j i = if hrd n G i = true ∧ hrd n G j = true then - (G j i : Int) else 0 := by unfold cM; rw [if_neg (by omega), if_neg hne]
/-- what is handed to those that are heard, beside itself -/
theorem cM_sum {n : Nat} {G : Nat → Nat → Nat} (hG : rowT n G) {j : Nat} (hj : j < n) (hh : hrd n G j = true) : sumI (cM G n j) n = G j j + sumI (fun i => if i = j then 0 else if hrd n G i = true then 0 else (G j i : Int)) n := by
  have e1 : sumI (cM G n j) n + sumI (fun i => (G j i : Int)) n = sumI (fun i => (if i = j then 10 + (G j j : Int) else 0) + (if i = j then 0 else if hrd n G i = true then 0 else (G j i : Int))) n := by
    rw [← sumI_add]
    refine sumI_congr (fun i _ => ?_)
    by_cases q : i = j
    · subst q; rw [cM_d hj, if_pos rfl, if_pos rfl]; omega
    · rw [cM_o hj q, if_neg q, if_neg q]
      by_cases q2 : hrd n G i = true
      · rw [if_pos ⟨q2, hh⟩, if_pos q2]; omega
      · rw [if_neg (fun z => q2 z.1), if_neg q2]
  rw [sumI_add, sumI_one (k := j) hj (fun i _ hne => if_neg hne), if_pos rfl, hG j hj] at e1
  omega
theorem cM_nn {n : Nat} {G : Nat → Nat → Nat} {j : Nat} : 0 ≤ sumI (fun i => if i = j then 0 else if hrd n G i = true then 0 else (G j i : Int)) n := sumI_nn (fun i _ => by split; omega; split <;> omega)
theorem cM_lost {n : Nat} {G : Nat → Nat → Nat} {j : Nat} (hj : j < n) (hh : ¬ hrd n G j = true) : sumI (cM G n j) n = 10 := by
  rw [sumI_one (k := j) hj (fun i _ hne => by rw [cM_o hj hne, if_neg (fun z => hh z.2)]), cM_d hj]
theorem mmx_M {n : Nat} {G : Nat → Nat → Nat} (hG : rowT n G) (hn : n ≤ 8) : mmx n (cM G n) 80 := by
  refine ⟨fun j hj => cM_d hj, fun j i hj hi hne => by rw [cM_o hj hne]; split <;> omega, fun j hj => ?_, fun i _ => by rw [cM_n]; split <;> decide, ?_, by decide, fun S hS j hj hSj => ?_⟩
  · by_cases hh : hrd n G j = true
    · rw [cM_sum hG hj hh]; have := cM_nn (n := n) (G := G) (j := j); omega
    · rw [cM_lost hj hh]; decide
  · have h1 := sumI_le (f := cM G n n) (g := fun _ => 10) (n := n) (fun i _ => by rw [cM_n]; split <;> decide)
    have h2 : ∀ k : Nat, sumI (fun _ => (10 : Int)) k = 10 * k := by
      intro k
      induction k with
      | zero => rfl
      | succ k ih => show sumI (fun _ => (10 : Int)) k + 10 = _; rw [ih]; omega
    rw [h2] at h1
    omega
  · have key : ∀ k j, j < n → S j → ¬ rch n G k j := by
      intro k
      induction k with
      | zero =>
        intro j hj hs h0
        have hh : hrd n G j = true := bo_t.mpr ⟨0, h0⟩
        have h1 := (hS j hj hs).1
        rw [cM_sum hG hj hh] at h1
        have := cM_nn (n := n) (G := G) (j := j)
        have h0 : 0 < G j j := h0
        omega
      | succ k ih =>
        intro j hj hs h0
        have hh : hrd n G j = true := bo_t.mpr ⟨k + 1, h0⟩
        rcases h0 with h0 | ⟨b, hb, hg, hk⟩
        · exact ih j hj hs h0
        · by_cases q : b = j
          · subst q; exact ih b hb hs hk
          · refine ih b hb ((hS j hj hs).2 b hb q ?_) hk
            rw [cM_o hj q, if_pos ⟨bo_t.mpr ⟨k, hk⟩, hh⟩]; omega
    by_cases hh : hrd n G j = true
    · obtain ⟨k, hk⟩ := bo_t.mp hh
      exact key k j hj hSj hk
    · have := (hS j hj hSj).1
      rw [cM_lost hj hh] at this
      exact absurd this (by decide)
noncomputable def vM (G : Nat → Nat → Nat) (n cap a : Nat) : Int := if a < n ∧ hrd n G a = true then min ((elR (cM G n) n).2 a n * G a a) (cap * (10 * (elR (cM G n) n).1)) else 0
theorem isV_M {n cap : Nat} {G : Nat → Nat → Nat} (hG : rowT n G) (hn : n ≤ 8) : isV n G cap (10 * (elR (cM G n) n).1) (vM G n cap) := by
  obtain ⟨h1, h2, h3, h4, h5⟩ := el_end (mmx_M hG hn)
  have p10 := (pw10 n hn).1
  refine ⟨by omega, by omega, fun l => (elR (cM G n) n).2 l n, fun a ha hh => ⟨h3 a ha, ?_⟩, fun r hr hh => ?_, fun a => rfl⟩
  · have e1 := h5 a ha
    rw [cM_sum hG ha hh] at e1
    have e2 := cM_nn (n := n) (G := G) (j := a)
    have e3 := Int.mul_le_mul_of_nonneg_left (show (G a a : Int) ≤ G a a + sumI (fun i => if i = a then 0 else if hrd n G i = true then 0 else (G a i : Int)) n by omega) (h3 a ha)
    show (elR (cM G n) n).2 a n * (G a a : Int) ≤ 8 * (10 * (elR (cM G n) n).1)
    omega
  · have e1 := h4 r hr
    rw [cM_n, if_pos hh] at e1
    rw [Int.mul_comm 10, e1]
    refine sumI_congr (fun c hc => ?_)
    by_cases q : c = r
    · subst q; rw [if_pos hh, if_pos rfl, cM_d hr]; exact Int.mul_comm _ _
    · rw [cM_o hc (fun z => q z.symm)]
      by_cases q2 : hrd n G c = true
      · rw [if_pos q2, if_neg q, if_pos ⟨hh, q2⟩]; exact Int.mul_comm _ _
      · rw [if_neg q2, if_neg (fun z => q2 z.2)]; exact (Int.mul_zero _).symm
-- cells of the matrix
def ps (n i : Nat) : Nat := if i = n then 8 else i
theorem ps_lt {n i : Nat} (hn : n ≤ 8) (hi : i ≤ n) : ps n i < 9 := by unfold ps; split <;> omega
theorem ps_inj {n l r i c : Nat} (hn : n ≤ 8) (hi : i ≤ n) (hc : c ≤ n) (h : 9 * l + ps n i = 9 * r + ps n c) : l = r ∧ i = c := by
  unfold ps at h
  split at h <;> split at h <;> omega
theorem ps_o {n i : Nat} (hi : i < n) : ps n i = i := if_neg (by omega)
theorem ps_n (n : Nat) : ps n n = 8 := if_pos rfl
def UE (σ σ' : hv_S) : Prop := σ'.1 = σ.1 ∧ ∀ p, p ≠ 76 → ∀ j, σ'.2.1 p j = σ.2.1 p j
theorem UE.refl (σ : hv_S) : UE σ σ := ⟨rfl, fun _ _ _ => rfl⟩
theorem UE.trans {σ σ' σ'' : hv_S} (h : UE σ σ') (h2 : UE σ' σ'') : UE σ σ'' := ⟨h2.1.trans h.1, fun p hp j => (h2.2 p hp j).trans (h.2 p hp j)⟩
theorem UE.u {σ : hv_S} {j : Nat} {v : Int64} : UE σ (hv_ul σ 76 j v) := ⟨rfl, fun p hp j' => by rw [ul_1, if_neg (fun z => hp z.1)]⟩
theorem cell9 (a b : Nat) : 9 * nI a + nI b = nI (9 * a + b) := by simp only [lI, pk_mul, nI_add]
section UN
variable {l : Launch} {e : hv_Ev} {σ : hv_S} {D : hD} {hb : hB} {It : hT}
theorem y_fill {Φ : hv_S → Prop} {n : Nat} {G : Nat → Nat → Nat} (hn : n ≤ 8) (hG : ∀ a b, a < n → b < n → G a b ≤ 10) (h41 : σ.1 60 41 = nI (msk (fun a => !hrd n G a) n)) (hg : gM σ n G)
    (k : ∀ σ', UE σ σ' → (∀ l i, l < n → i ≤ n → σ'.2.1 76 (9 * l + ps n i) = lZ (cM G n i l)) → L_X10_unroll_138 l e Φ (nI n) 1 0 σ') : L_X10_unroll_15 l e Φ (nI n) 0 σ := by
  have p8 : 2 ^ n ≤ 2 ^ 8 := Nat.pow_le_pow_right (by decide) hn
  have hL := msk_lt (fun a => !hrd n G a) n
  have hLb : ∀ a, a < n → (msk (fun a => !hrd n G a) n).testBit a = !hrd n G a := fun a ha => by rw [msk_bit]; simp [ha]
  suffices ∀ d j σ', j + d = n → UE σ σ' → (∀ l i, l < j → i ≤ n → σ'.2.1 76 (9 * l + ps n i) = lZ (cM G n i l)) → L_X10_unroll_15 l e Φ (nI n) (nI j) σ' by
    exact this n 0 σ (Nat.zero_add n) (UE.refl σ) (fun l i hl => absurd hl (Nat.not_lt_zero l))
  intro d
  induction d with
  | zero =>
    intro j σ' hj hU hc
    have hjn : j = n := by omega
    subst hjn
    exact B_X10_unroll_15 _ _ ⟨fun _ => k σ' hU hc, fun q => absurd (nI_le (Nat.le_refl _) (by omega)) q⟩
  | succ d ih =>
    intro j σ' hj hU hc
    have hjn : j < n := by omega
    refine B_X10_unroll_15 _ _ ⟨fun q => absurd q (nI_ge (by omega) (by omega)), fun _ => ?_⟩
    suffices ∀ f c σ2, c + f = n → UE σ σ2 → (∀ l i, (l < j ∧ i ≤ n ∨ l = j ∧ i < c) → σ2.2.1 76 (9 * l + ps n i) = lZ (cM G n i l)) → L_X10_unroll_22 l e Φ (nI n) (nI j) (nI c) σ2 by
      exact this n 0 σ' (by omega) hU (fun l i q => by
        rcases q with q | q
        · exact hc l i q.1 q.2
        · omega)
    intro f
    induction f with
    | zero =>
      intro c σ2 hcn hU2 hc2
      have hcn : c = n := by omega
      subst hcn
      refine B_X10_unroll_22 _ _ _ ⟨fun _ => ?_, fun q => absurd (nI_le (Nat.le_refl _) (by omega)) q⟩
      rw [hU2.1, h41]
      refine y_has (by omega) (by omega) ?_
      rw [hLb j hjn, bI_0, show (8 : Int32) = nI 8 from rfl, show 9 * nI j + nI 8 = nI (9 * j + 8) from cell9 j 8, nI_clamp (by omega), nI_1]
      have hv : vp_in (nI (9 * j + 8)) 72 := vp_in_nI (by omega) (by decide)
      have nx : ∀ v, v = lZ (cM G c c j) → L_X10_unroll_15 l e Φ (nI c) (nI (j + 1)) (hv_ul σ2 76 (9 * j + 8) v) := fun v hvv => by
        refine ih (j + 1) _ (by omega) (hU2.trans UE.u) (fun l i hl hi => ?_)
        rw [ul_1]
        by_cases q : l = j ∧ i = c
        · rw [q.1, q.2, ps_n, if_pos ⟨rfl, rfl⟩]; exact hvv
        · rw [if_neg (fun z => q (ps_inj hn hi (Nat.le_refl c) (by rw [ps_n]; exact z.2)))]
          exact hc2 l i (by omega)
      refine ⟨fun q => ⟨hv, nx 10 ?_⟩, fun q => ⟨hv, nx 0 ?_⟩⟩
      · rw [cM_n, if_pos (by simpa using q)]; rfl
      · rw [cM_n, if_neg (by simpa using q)]; rfl
    | succ f ihf =>
      intro c σ2 hcn hU2 hc2
      have hcn' : c < n := by omega
      have hv : vp_in (nI (9 * j + c)) 72 := vp_in_nI (by omega) (by decide)
      refine B_X10_unroll_22 _ _ _ ⟨fun q => absurd q (nI_ge (by omega) (by omega)), fun _ => ?_⟩
      rw [hU2.1, h41, cell9, nI_clamp (by omega), nI_1, ne_eq, nI_eq (by omega) (by omega)]
      have nx : ∀ v, v = lZ (cM G n c j) → L_X10_unroll_22 l e Φ (nI n) (nI j) (nI (c + 1)) (hv_ul σ2 76 (9 * j + c) v) := fun v hvv => by
        refine ihf (c + 1) _ (by omega) (hU2.trans UE.u) (fun l i hli => ?_)
        rw [ul_1]
        by_cases q : l = j ∧ i = c
        · rw [q.1, q.2, ps_o hcn', if_pos ⟨rfl, rfl⟩]; exact hvv
        · rw [if_neg (fun z => q (ps_inj hn (by omega) (by omega) (by rw [ps_o hcn']; exact z.2)))]
          exact hc2 l i (by omega)
      refine ⟨fun q => y_has (by omega) (by omega) ?_, fun q => ⟨hv, nx 10 (by rw [q, cM_d hjn]; rfl)⟩⟩
      rw [hLb c hcn', bI_0]
      refine ⟨fun q2 => ⟨hv, nx 0 ?_⟩, fun q2 => ?_⟩
      · rw [cM_o hcn' (fun z => q z.symm), if_neg (fun z => by rw [z.2] at q2; exact q2 rfl)]; rfl
      · rw [hU2.1, h41]
        refine y_has (by omega) (by omega) ?_
        rw [hLb j hjn, bI_0, cellM, nI_clamp (by omega), hU2.1, hg c j hcn' hjn]
        refine ⟨fun q3 => ⟨vp_in_nI (by omega) (by decide), hv, nx _ ?_⟩, fun q3 => ⟨hv, nx 0 ?_⟩⟩
        · have := hG c j hcn' hjn
          rw [cM_o hcn' (fun z => q z.symm), if_pos ⟨by simpa using q3, by simpa using q2⟩, nnI_lZ (by omega)]
        · rw [cM_o hcn' (fun z => q z.symm), if_neg (fun z => by rw [z.1] at q3; exact q3 rfl)]; rfl
theorem y_row {Φ : hv_S → Prop} {n k r : Nat} {d : Int} {A : Nat → Nat → Int} (hn : n ≤ 8) (hr : r < n) (hk : k < n) (hne : r ≠ k) (hd : 0 < d) (hd7 : d ≤ 10000000) (hrr : ∀ i, k ≤ i → i ≤ n → σ.2.1 76 (9 * r + ps n i) = lZ (A r i)) (hrk : ∀ i, k ≤ i → i ≤ n → σ.2.1 76 (9 * k + ps n i) = lZ (A k i))
    (hx : ∀ i, k + 1 ≤ i → i ≤ n → A k k * A r i - A r k * A k i = d * elS k d A r i ∧ -128000000000 ≤ elS k d A r i ∧ elS k d A r i ≤ 128000000000)
    (kk : ∀ σ', UE σ σ' → (∀ i, k + 1 ≤ i → i ≤ n → σ'.2.1 76 (9 * r + ps n i) = lZ (elS k d A r i)) → (∀ q, (q < 9 * r ∨ 9 * r + 9 ≤ q) → σ'.2.1 76 q = σ.2.1 76 q) → L_X10_unroll_162 l e Φ (nI n) (lZ d) (nI k) (lZ (A k k)) (nI (r + 1)) σ') :
    L_X10_unroll_196 l e Φ (nI n) (lZ d) (nI k) (lZ (A k k)) (nI r) (lZ (A r k)) 0 σ := by
  have hd0 : ¬ lZ d = 0 := fun q => by
    have := (lZ_eq (a := d) (b := 0) (by omega) (by omega) (by decide) (by decide)).mp q
    omega
  suffices ∀ f c σ', c + f = 9 → UE σ σ' → (∀ i, k + 1 ≤ i → i ≤ n → ps n i < c → σ'.2.1 76 (9 * r + ps n i) = lZ (elS k d A r i)) → (∀ i, k + 1 ≤ i → i ≤ n → c ≤ ps n i → σ'.2.1 76 (9 * r + ps n i) = lZ (A r i)) → (∀ q, (q < 9 * r ∨ 9 * r + 9 ≤ q) → σ'.2.1 76 q = σ.2.1 76 q) → L_X10_unroll_196 l e Φ (nI n) (lZ d) (nI k) (lZ (A k k)) (nI r) (lZ (A r k)) (nI c) σ' by
    exact this 9 0 σ rfl (UE.refl σ) (fun i _ _ h => absurd h (Nat.not_lt_zero _)) (fun i h1 h2 _ => hrr i (by omega) h2) (fun _ _ => rfl)
  intro f
  induction f with
  | zero =>
    intro c σ' hc hU g1 g2 g3
    have hc9 : c = 9 := by omega
    subst hc9
    refine B_X10_unroll_196 _ _ _ _ _ _ _ ⟨fun _ => ?_, fun q => absurd (nI_le (a := 9) (b := 9) (by decide) (by decide)) q⟩
    rw [cell9, nI_clamp (by omega), nI_1]
    refine ⟨vp_in_nI (by omega) (by decide), kk _ (hU.trans UE.u) (fun i h1 h2 => ?_) (fun q hq => ?_)⟩
    · rw [ul_1, if_neg (fun z => by
        have := ps_inj (c := k) hn h2 (by omega) (by rw [ps_o hk]; exact z.2)
        omega)]
      exact g1 i h1 h2 (ps_lt hn h2)
    · rw [ul_1, if_neg (fun z => by omega)]; exact g3 q hq
  | succ f ih =>
    intro c σ' hc hU g1 g2 g3
    have hv : vp_in (nI (9 * r + c)) 72 := vp_in_nI (by omega) (by decide)
    have hvk : vp_in (nI (9 * k + c)) 72 := vp_in_nI (by omega) (by decide)
    refine B_X10_unroll_196 _ _ _ _ _ _ _ ⟨fun q => absurd q (nI_ge (a := c) (b := 9) (by omega) (by decide)), fun _ => ?_⟩
    rw [cell9, cell9, nI_clamp (by omega), nI_clamp (by omega), nI_1, nI_eq (by omega) (by omega)]
    refine ⟨fun q => ih (c + 1) σ' (by omega) hU (fun i h1 h2 h3 => ?_) (fun i h1 h2 h3 => g2 i h1 h2 (by omega)) g3, fun q => ⟨hv, hvk, hd0, hv, ih (c + 1) _ (by omega) (hU.trans UE.u) (fun i h1 h2 h3 => ?_) (fun i h1 h2 h3 => ?_) (fun q hq => ?_)⟩⟩
    · refine g1 i h1 h2 ?_
      have : ps n i ≠ c := fun z => by
        have := ps_inj (l := 0) (r := 0) (c := k) hn h2 (by omega) (by rw [ps_o hk, z, q])
        omega
      omega
    · rw [ul_1]
      by_cases q2 : ps n i = c
      · obtain ⟨x1, x2, x3⟩ := hx i h1 h2
        have b1 : -9223372036854775808 ≤ d * elS k d A r i ∧ d * elS k d A r i < 9223372036854775808 := by
          have y1 : d * elS k d A r i ≤ d * 128000000000 := Int.mul_le_mul_of_nonneg_left x3 (by omega)
          have y2 : d * (-128000000000) ≤ d * elS k d A r i := Int.mul_le_mul_of_nonneg_left x2 (by omega)
          omega
        have ck : σ'.2.1 76 (9 * k + c) = lZ (A k i) := by
          rw [g3 _ (by omega), ← q2]; exact hrk i (by omega) h2
        have cr : σ'.2.1 76 (9 * r + c) = lZ (A r i) := by
          rw [← q2]; exact g2 i h1 h2 (by omega)
        rw [if_pos ⟨rfl, by omega⟩, ck, cr, lZ_mul, lZ_mul, lZ_sub, x1, lZ_div hd (by omega) b1.1 b1.2 (by omega) (by omega)]
      · rw [if_neg (fun z => q2 (by omega))]; exact g1 i h1 h2 (by omega)
    · rw [ul_1, if_neg (fun z => by omega)]; exact g2 i h1 h2 (by omega)
    · rw [ul_1, if_neg (fun z => by omega)]; exact g3 q hq
theorem y_elim {Φ : hv_S → Prop} {n : Nat} {c : Nat → Nat → Int} (hn : n ≤ 8) (hm : mmx n c 80) (hr : ∀ l i, l < n → i ≤ n → σ.2.1 76 (9 * l + ps n i) = lZ (c i l))
    (k : ∀ σ', UE σ σ' → (∀ l, l < n → σ'.2.1 76 (9 * l + 8) = lZ ((elR c n).2 l n)) → L_X10_unroll_336 l e Φ (nI n) 0 (hv_ul σ' 60 40 (10 * lZ (elR c n).1))) : L_X10_unroll_138 l e Φ (nI n) 1 0 σ := by
  suffices ∀ f i σ', i + f = n → UE σ σ' → (∀ l j, l < n → i ≤ j → j ≤ n → σ'.2.1 76 (9 * l + ps n j) = lZ ((elR c i).2 l j)) → L_X10_unroll_138 l e Φ (nI n) (lZ (elR c i).1) (nI i) σ' by
    exact this n 0 σ (Nat.zero_add n) (UE.refl σ) (fun l j hl _ hj => hr l j hl hj)
  intro f
  induction f with
  | zero =>
    intro i σ' hi hU hrw
    have hin : i = n := by omega
    subst hin
    exact B_X10_unroll_138 _ _ _ ⟨fun _ => k σ' hU (fun l hl => by have := hrw l i hl (Nat.le_refl i) (Nat.le_refl i); rw [ps_n] at this; exact this), fun q => absurd (nI_le (Nat.le_refl _) (by omega)) q⟩
  | succ f ih =>
    intro i σ' hi hU hrw
    have hin : i < n := by omega
    obtain ⟨e1, s1⟩ := el_all hm i (by omega)
    obtain ⟨e2, s2⟩ := el_all hm (i + 1) (by omega)
    have hpv := sg_piv hm s1 e1 (show i < n by omega)
    have hd7 := pw10' i (by omega)
    have hx := (el_step e1 (by omega) (by have := s1.1; omega) (by omega)).2
    refine B_X10_unroll_138 _ _ _ ⟨fun q => absurd q (nI_ge (by omega) (by omega)), fun _ => ?_⟩
    have hp := hrw i i hin (Nat.le_refl i) (by omega)
    rw [ps_o hin] at hp
    rw [cell9, nI_clamp (by omega), hp]
    refine ⟨vp_in_nI (by omega) (by decide), ?_⟩
    -- the diagonal behind it
    have diag : ∀ g r σ2, r + g = i → UE σ σ2 → (∀ l j, l < n → i + 1 ≤ j → j ≤ n → σ2.2.1 76 (9 * l + ps n j) = lZ ((elR c (i + 1)).2 l j)) → L_X10_unroll_287 l e Φ (nI n) (nI i) (lZ ((elR c i).2 i i)) (nI r) σ2 := by
      intro g
      induction g with
      | zero =>
        intro r σ2 hr2 hU2 hw
        have hri : r = i := by omega
        subst hri
        refine B_X10_unroll_287 _ _ _ _ ⟨fun _ => ?_, fun q => absurd (nI_le (Nat.le_refl _) (by omega)) q⟩
        rw [nI_1]
        exact ih (r + 1) σ2 (by omega) hU2 hw
      | succ g ihg =>
        intro r σ2 hr2 hU2 hw
        refine B_X10_unroll_287 _ _ _ _ ⟨fun q => absurd q (nI_ge (by omega) (by omega)), fun _ => ?_⟩
        rw [cell9, nI_clamp (by omega), nI_1]
        refine ⟨vp_in_nI (by omega) (by decide), ihg (r + 1) _ (by omega) (hU2.trans UE.u) (fun l j hl h1 h2 => ?_)⟩
        rw [ul_1, if_neg (fun z => by
          have := ps_inj (c := r) hn h2 (by omega) (by rw [ps_o (show r < n by omega)]; exact z.2)
          omega)]
        exact hw l j hl h1 h2
    suffices ∀ g r σ2, r + g = n → UE σ σ2 → (∀ l j, l < n → (l < r → i + 1 ≤ j) → i ≤ j → j ≤ n → σ2.2.1 76 (9 * l + ps n j) = lZ (if l < r then elS i (elR c i).1 (elR c i).2 l j else (elR c i).2 l j)) → (∀ j, i ≤ j → j ≤ n → σ2.2.1 76 (9 * i + ps n j) = lZ ((elR c i).2 i j)) → L_X10_unroll_162 l e Φ (nI n) (lZ (elR c i).1) (nI i) (lZ ((elR c i).2 i i)) (nI r) σ2 by
      exact this n 0 σ' (by omega) hU (fun l j hl _ hj hjp => by rw [if_neg (by omega)]; exact hrw l j hl hj hjp) (fun j hj hjp => hrw i j (by omega) hj hjp)
    intro g
    induction g with
    | zero =>
      intro r σ2 hr2 hU2 hw hwi
      refine B_X10_unroll_162 _ _ _ _ _ ⟨fun _ => ?_, fun q => absurd (nI_le (by omega) (by omega)) q⟩
      refine diag i 0 σ2 (by omega) hU2 (fun l j hl hj hjp => ?_)
      have := hw l j hl (fun _ => hj) (by omega) hjp
      rw [if_pos (by omega)] at this
      exact this
    | succ g ihg =>
      intro r σ2 hr2 hU2 hw hwi
      refine B_X10_unroll_162 _ _ _ _ _ ⟨fun q => absurd q (nI_ge (by omega) (by omega)), fun _ => ?_⟩
      rw [cell9, nI_clamp (by omega), nI_1, ne_eq, nI_eq (by omega) (by omega)]
      refine ⟨fun hri => ⟨vp_in_nI (by omega) (by decide), ?_⟩, fun hri => ?_⟩
      · have hrr : ∀ j, i ≤ j → j ≤ n → σ2.2.1 76 (9 * r + ps n j) = lZ ((elR c i).2 r j) := fun j hj hjp => by
          have := hw r j (by omega) (fun z => by omega) hj hjp
          rw [if_neg (by omega)] at this
          exact this
        have hf := hrr i (Nat.le_refl i) (by omega)
        rw [ps_o hin] at hf
        rw [hf]
        refine y_row (A := (elR c i).2) hn (by omega) hin hri s1.1 (by have := s1.2.1; omega) hrr hwi (fun j hj hjp => ⟨hx r j (by omega) hri hj hjp, sg_bound s2 (by omega) (by decide) (by decide) (show r < n by omega) hj hjp⟩) (fun σ3 hU3 w1 w2 => ?_)
        refine ihg (r + 1) σ3 (by omega) (hU2.trans hU3) (fun l j hl hlj hj hjp => ?_) (fun j hj hjp => ?_)
        · by_cases q2 : l = r
          · rw [if_pos (by omega), q2]
            exact w1 j (hlj (by omega)) hjp
          · have hps := ps_lt hn hjp
            rw [w2 _ (by omega)]
            have := hw l j hl (fun z => hlj (by omega)) hj hjp
            rw [this]
            by_cases q3 : l < r
            · rw [if_pos q3, if_pos (by omega)]
            · rw [if_neg q3, if_neg (by omega)]
        · have hps := ps_lt hn hjp
          rw [w2 _ (by omega)]; exact hwi j hj hjp
      · refine ihg (r + 1) σ2 (by omega) hU2 (fun l j hl hlj hj hjp => ?_) hwi
        by_cases q2 : l = r
        · rw [if_pos (by omega), q2, hri, hwi j hj hjp]
          unfold elS
          rw [if_pos rfl]
        · have := hw l j hl (fun z => hlj (by omega)) hj hjp
          rw [this]
          by_cases q3 : l < r
          · rw [if_pos q3, if_pos (by omega)]
          · rw [if_neg q3, if_neg (by omega)]
/-- voices lie ready: the lost ones, where voices go -/
def uvI (D : hD) (G : Nat → Nat → Nat) (σ : hv_S) (W : Int) (v : Nat → Int) : Prop := gM σ (D 0 0) G ∧ σ.1 60 41 = nI (msk (fun a => !hrd (D 0 0) G a) (D 0 0)) ∧ isV (D 0 0) G (D 0 3) W v ∧ vmI σ (D 0 0) W v
theorem y_unroll {Φ : hv_S → Prop} {G : Nat → Nat → Nat} (hR : RM D hb It σ) (hW : hWF D) (hG : rowT (D 0 0) G) (hg : gM σ (D 0 0) G) (k : ∀ σ' W v, ME σ σ' → RM D hb It σ' → uvI D G σ' W v → Φ σ') : hv_CV l (hv_e2 e) 2 m_X10_unroll [.ref 60] σ Φ := by
  have hn := hW.1
  have hcap : D 0 3 ≤ 999 := hW.2.2.2.1
  have hG10 : ∀ a b, a < D 0 0 → b < D 0 0 → G a b ≤ 10 := fun a b ha hb' => rowT_le (hG a ha) hb'
  have p8 : 2 ^ D 0 0 ≤ 2 ^ 8 := Nat.pow_le_pow_right (by decide) hn
  have hL := msk_lt (fun a => !hrd (D 0 0) G a) (D 0 0)
  have hLb : ∀ a, a < D 0 0 → (msk (fun a => !hrd (D 0 0) G a) (D 0 0)).testBit a = !hrd (D 0 0) G a := fun a ha => by rw [msk_bit]; simp [ha]
  refine B_X10_unroll (y_lostNow hR.1.1 hn hg (fun a b ha hb' => by have := hG10 a b ha hb'; omega) ?_)
  rw [hR.1.1]
  have hR1 := hR.ui (k := 60) (j := 41) (v := nI (msk (fun a => !hrd (D 0 0) G a) (D 0 0))) (Or.inr (by decide))
  have hM1 : ME σ (hv_ui σ 60 41 (nI (msk (fun a => !hrd (D 0 0) G a) (D 0 0)))) := ME.ui (by decide) (by decide) (Or.inr (by decide))
  have h41 : (hv_ui σ 60 41 (nI (msk (fun a => !hrd (D 0 0) G a) (D 0 0)))).1 60 41 = nI (msk (fun a => !hrd (D 0 0) G a) (D 0 0)) := by rw [ui_1, if_pos ⟨rfl, rfl⟩]
  have hg1 : gM (hv_ui σ 60 41 (nI (msk (fun a => !hrd (D 0 0) G a) (D 0 0)))) (D 0 0) G := hg.of (fun j => rfl)
  generalize hv_ui σ 60 41 (nI (msk (fun a => !hrd (D 0 0) G a) (D 0 0))) = σ1 at *
  have hM := mmx_M hG hn
  obtain ⟨z1, z2, z3, z4, z5⟩ := el_end hM
  have p10 := (pw10 (D 0 0) hn).1
  have hV := isV_M (cap := D 0 3) hG hn
  refine y_fill hn hG10 h41 hg1 (fun σ2 hU2 hc2 => y_elim hn hM hc2 (fun σ3 hU3 hx3 => ?_))
  have hU := hU2.trans hU3
  obtain ⟨d, hd⟩ : ∃ d, d = (elR (cM G (D 0 0)) (D 0 0)).1 := ⟨_, rfl⟩
  rw [← hd] at z1 z2 z5 hV ⊢
  suffices ∀ f j σ', j + f = D 0 0 → σ'.1 = σ1.1 → (∀ p, p ≠ 76 → p ≠ 75 → p ≠ 60 → ∀ j, σ'.2.1 p j = σ1.2.1 p j) → (∀ l, l < D 0 0 → σ'.2.1 76 (9 * l + 8) = lZ ((elR (cM G (D 0 0)) (D 0 0)).2 l (D 0 0))) → σ'.2.1 60 40 = lZ (10 * d) → (∀ a, a < j → σ'.2.1 75 a = lZ (vM G (D 0 0) (D 0 3) a)) → L_X10_unroll_336 l e Φ (nI (D 0 0)) (nI j) σ' by
    refine this (D 0 0) 0 _ (by omega) hU.1 (fun p h1 h2 h3 j => by rw [ul_1, if_neg (fun z => h3 z.1)]; exact hU.2 p h1 j) (fun l hl => by rw [ul_1, if_neg (fun z => absurd z.1 (by decide))]; exact hx3 l hl) ?_ (fun a ha => absurd ha (Nat.not_lt_zero a))
    rw [ul_1, if_pos ⟨rfl, rfl⟩, show (10 : Int64) = lZ 10 from rfl, lZ_mul]
  have hcW1 : (0 : Int) ≤ (D 0 3 : Int) * (10 * d) := Int.mul_nonneg (by omega) (by omega)
  have hcW2 : (D 0 3 : Int) * (10 * d) ≤ 999 * (10 * d) := Int.mul_le_mul_of_nonneg_right (by omega) (by omega)
  intro f
  induction f with
  | zero =>
    intro j σ' hj h1 hp h76 h60 h75
    have hjn : j = D 0 0 := by omega
    subst hjn
    have hM' : ME σ1 σ' := ⟨fun p _ j => by rw [h1], by rw [h1], fun j _ => by rw [h1], fun j => hp 82 (by decide) (by decide) (by decide) j⟩
    exact B_X10_unroll_336 _ _ ⟨fun _ => k σ' (10 * d) (vM G (D 0 0) (D 0 3)) (hM1.trans hM') (hR1.of hM' (hR1.2.2.2.1.of (by rw [h1]) (fun _ => by rw [h1]) (fun _ => by rw [h1]))) ⟨hg1.of (fun _ => by rw [h1]), by rw [h1]; exact h41, hV, h60, h75, hV.1, hV.2.1, isV_nn hV⟩, fun q => absurd (nI_le (Nat.le_refl _) (by omega)) q⟩
  | succ f ih =>
    intro j σ' hj h1 hp h76 h60 h75
    have hjn : j < D 0 0 := by omega
    refine B_X10_unroll_336 _ _ ⟨fun q => absurd q (nI_ge (by omega) (by omega)), fun _ => ?_⟩
    have h19 : σ'.1 60 19 = nI (D 0 3) := by rw [h1]; exact hR1.2.2.1.2.1
    rw [show σ'.1 60 41 = nI (msk (fun a => !hrd (D 0 0) G a) (D 0 0)) by rw [h1]; exact h41]
    refine y_has (by omega) (by omega) ?_
    rw [hLb j hjn, bI_0, show 9 * nI j + 8 = nI (9 * j + 8) from cell9 j 8, cellM, nI_clamp (by omega), nI_clamp (by omega), nI_clamp (by omega), nI_1, h60, h19, nI_lZ (by omega), lZ_mul, h76 j hjn]
    have h74 : σ'.1 74 (8 * j + j) = nI (G j j) := by rw [h1]; exact hg1 j j hjn hjn
    have hGj := hG10 j j hjn hjn
    rw [h74, nI_lZ (by omega), lZ_mul]
    have hv8 : vp_in (nI j) 8 := vp_in_nI (by omega) (by decide)
    have nx : ∀ v, v = lZ (vM G (D 0 0) (D 0 3) j) → L_X10_unroll_336 l e Φ (nI (D 0 0)) (nI (j + 1)) (hv_ul σ' 75 j v) := fun v hvv => by
      refine ih (j + 1) _ (by omega) h1 (fun p a1 a2 a3 q => by rw [ul_1, if_neg (fun z => a2 z.1)]; exact hp p a1 a2 a3 q) (fun l hl => by rw [ul_1, if_neg (fun z => absurd z.1 (by decide))]; exact h76 l hl) (by rw [ul_1, if_neg (fun z => absurd z.1 (by decide))]; exact h60) (fun a ha => ?_)
      rw [ul_1]
      by_cases q : a = j
      · subst q; rw [if_pos ⟨rfl, rfl⟩]; exact hvv
      · rw [if_neg (fun z => q z.2)]; exact h75 a (by omega)
    refine ⟨fun q => ⟨vp_in_nI (by omega) (by decide), vp_in_nI (by omega) (by decide), fun z23 hz => ?_⟩, fun q => ⟨fun q2 => ⟨hv8, nx 0 ?_⟩, fun q2 => absurd ((lZ_le (a := 0) (by decide) (by decide) (by omega) (by omega)).mpr hcW1) q2⟩⟩
    · have hh : hrd (D 0 0) G j = true := by simpa using q
      have hvm : vM G (D 0 0) (D 0 3) j = min ((elR (cM G (D 0 0)) (D 0 0)).2 j (D 0 0) * G j j) (D 0 3 * (10 * d)) := by unfold vM; rw [if_pos ⟨hjn, hh⟩, ← hd]
      have b1 := Int.mul_nonneg (z3 j hjn) (show (0 : Int) ≤ (G j j : Int) by omega)
      have b2 : (elR (cM G (D 0 0)) (D 0 0)).2 j (D 0 0) * (G j j : Int) ≤ d * 80 := by
        have e1 := z5 j hjn
        rw [cM_sum hG hjn hh] at e1
        have e2 := cM_nn (n := D 0 0) (G := G) (j := j)
        have e3 := Int.mul_le_mul_of_nonneg_left (show (G j j : Int) ≤ G j j + sumI (fun i => if i = j then 0 else if hrd (D 0 0) G i = true then 0 else (G j i : Int)) (D 0 0) by omega) (z3 j hjn)
        omega
      subst hz
      rw [lZ_le (by omega) (by omega) (by omega) (by omega)]
      refine ⟨fun q2 => ⟨hv8, nx _ ?_⟩, fun q2 => ⟨hv8, nx _ ?_⟩⟩
      · rw [hvm, Int.min_eq_left q2]
      · rw [hvm, Int.min_eq_right (by omega)]
    · have hh : ¬ hrd (D 0 0) G j = true := by simpa using q
      unfold vM; rw [if_neg (fun z => hh z.2)]; rfl
theorem y_findVoices {Φ : hv_S → Prop} {m w : Nat} (hR : RM D hb It σ) (hW : hWF D) (hm : m < 3) (hw : w ≤ 100) (k : ∀ σ' W v, ME σ σ' → RM D hb It σ' → uvI D (GX D hb m w 0 none) σ' W v → Φ σ') : hv_CV l (hv_e2 e) 12 m_X10_findVoices [.ref 60, .int (nI m), .int (nI w)] σ Φ :=
  B_X10_findVoices _ _ (y_findAll hR hW hm hw (fun σ1 hS1 hR1 hg1 => y_unroll hR1 hW (GX_row hW hm gtW0) hg1 (fun σ2 W v hM2 hR2 hU => k σ2 W v (hS1.me.trans hM2) hR2 hU)))
end UN
