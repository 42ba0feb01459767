-- THE REFERENCE: the hall, acts, tapes
section RH
variable {l : Launch} {e : hv_Ev} {σ : hv_S} {D : hD} {hb : hB} {It : hT}
theorem y_hall {Φ : Int32 → hv_S → Prop} (hR : RM D hb It σ) (hW : hWF D) (k : ∀ σ', RM (hlR D hb).2.1 (hlR D hb).2.2 It σ' → Φ (hlR D hb).1 σ') : hv_CI l (hv_e2 e) 7 m_X10_hall [.ref 60] σ Φ := by
  have hn : D 0 7 ≤ 100 := hW.2.2.2.2.2.2.2.2.1
  have h8 := hW.2.2.2.2.2.2.2.2.2.2.2.1
  have hrd := rd_ok (T := fun k => D 8 k) (n := D 0 7)
  obtain ⟨⟨a1, a2, a3, a4, a5⟩, ⟨b1, b2⟩, ⟨c1, c2, c3, c4, c5, c6⟩, hB, ⟨f1, f2⟩, ⟨g1, g2⟩⟩ := hR
  have hf : ∃ F : Nat → Nat, ∀ j, j < 5 → F j < 1000 ∧ σ.1 70 j = nI (F j) := by
    have key : ∀ j, ∃ f, j < 5 → f < 1000 ∧ σ.1 70 j = nI f := fun j => by
      by_cases c : j < 5
      · obtain ⟨f, h1, h2⟩ := hB.1 j c
        exact ⟨f, fun _ => ⟨h1, h2⟩⟩
      · exact ⟨0, fun z => absurd z c⟩
    exact ⟨fun j => Classical.choose (key j), fun j hj => Classical.choose_spec (key j) hj⟩
  obtain ⟨F, hF⟩ := hf
  obtain ⟨σ1, hσ1⟩ : ∃ σ1, σ1 = hv_ui (hv_ui σ 69 1 (σ.1 60 10)) 60 10 0 := ⟨_, rfl⟩
  have o1 : ∀ p, p ≠ 60 → p ≠ 69 → ∀ j, σ1.1 p j = σ.1 p j := fun p p60 p69 j => by rw [hσ1, ui_1, if_neg (fun z => p60 z.1), ui_1, if_neg (fun z => p69 z.1)]
  have o60 : ∀ j, j ≠ 10 → σ1.1 60 j = σ.1 60 j := fun j hj => by rw [hσ1, ui_1, if_neg (fun z => hj z.2), ui_1, if_neg (fun z => absurd z.1 (by decide))]
  have o690 : σ1.1 69 0 = σ.1 69 0 := by rw [hσ1, ui_1, if_neg (fun z => absurd z.1 (by decide)), ui_1, if_neg (fun z => absurd z.2 (by decide))]
  have o691 : σ1.1 69 1 = nI (D 0 7) := by rw [hσ1, ui_1, if_neg (fun z => absurd z.1 (by decide)), ui_1, if_pos ⟨rfl, rfl⟩]; exact b1
  have o10 : σ1.1 60 10 = 0 := by rw [hσ1, ui_1, if_pos ⟨rfl, rfl⟩]
  have o2 : σ1.2 = σ.2 := by rw [hσ1]; rfl
  unfold hlR at k
  refine B_X10_hall ⟨vp_in_nI (n := 1) (by decide) (by decide), ?_⟩
  rw [← hσ1]
  refine y_goes (w := 1) (T := fun k => D 8 k) (n := D 0 7) (F := F) (by decide) ⟨hn, by decide, fun k' hk' => ⟨?_, h8 k' hk'⟩, fun j hj => ⟨by rw [o1 70 (by decide) (by decide)]; exact (hF j hj).2, (hF j hj).1⟩⟩ o691 ?_
  · rw [o1 68 (by decide) (by decide)]; exact b2 k' hk'
  cases hres : rdH (fun k => D 8 k) (D 0 7) with
  | inl q =>
    rw [hres] at k hrd
    have k : ∀ σ', RM (emD D) hb It σ' → Φ (-10 - nI q) σ' := k
    refine fun σ2 h2 => ⟨fun z => absurd rfl z, fun _ => ?_⟩
    obtain ⟨w1, w2, w3, w4⟩ := h2
    rw [w4]
    have p1 : ∀ p, p ≠ 60 → p ≠ 69 → p ≠ 72 → p ≠ 73 → ∀ j, σ2.1 p j = σ.1 p j := fun p q1 q2 q3 q4 j => by rw [w2 p q1 q3 q4, o1 p q1 q2]
    have p60 : ∀ j, (j < 10 ∨ 10 < j ∧ j < 14 ∨ 18 < j ∧ j < 27 ∨ 33 < j) → σ2.1 60 j = σ.1 60 j := fun j hj => by rw [w3 j (by omega), o60 j (by omega)]
    refine k σ2 ⟨⟨by rw [p60 0 (by decide)]; exact a1, by rw [p60 1 (by decide)]; exact a2, fun c hc => by rw [p1 67 (by decide) (by decide) (by decide) (by decide)]; exact a3 c hc, fun c hc => by rw [p1 66 (by decide) (by decide) (by decide) (by decide)]; exact a4 c hc, fun m a hm ha => ?_⟩, ⟨?_, fun i hi => absurd hi (Nat.not_lt_zero i)⟩, ⟨by rw [p60 9 (by decide)]; exact c1, by rw [p60 19 (by decide)]; exact c2, by rw [p60 20 (by decide)]; exact c3, by rw [p60 21 (by decide)]; exact c4, by rw [p60 22 (by decide)]; exact c5, ?_⟩, ⟨fun j hj => by rw [p1 70 (by decide) (by decide) (by decide) (by decide)]; exact hB.1 j hj, ?_⟩, ⟨by rw [p60 46 (by decide)]; exact f1, fun i hi hi2 => by rw [p1 79 (by decide) (by decide) (by decide) (by decide)]; exact f2 i hi hi2⟩, ⟨fun t ht => by rw [p1 80 (by decide) (by decide) (by decide) (by decide), p1 81 (by decide) (by decide) (by decide) (by decide)]; exact g1 t ht, fun t i ht hi => by rw [w1, o2]; exact g2 t i ht hi⟩⟩
    · rw [p1 66 (by decide) (by decide) (by decide) (by decide), p1 61 (by decide) (by decide) (by decide) (by decide), p1 62 (by decide) (by decide) (by decide) (by decide), p1 63 (by decide) (by decide) (by decide) (by decide), p1 64 (by decide) (by decide) (by decide) (by decide), p1 65 (by decide) (by decide) (by decide) (by decide)]
      exact a5 m a hm ha
    · rw [w3 10 (by decide), o10]; rfl
    · rcases c6 with c6 | ⟨c7, T, n, s, d1, d2, d3, d4, d5⟩
      · exact Or.inl c6
      · exact Or.inr ⟨c7, T, n, s, d1, d2, by rw [w2 69 (by decide) (by decide) (by decide), o690]; exact d3, fun i hi => by rw [p1 68 (by decide) (by decide) (by decide) (by decide)]; exact d4 i hi, d5⟩
    · rcases hB.2 with c | ⟨c, c71⟩
      · exact Or.inl (by rw [p60 24 (by decide)]; exact c)
      · exact Or.inr ⟨by rw [p60 24 (by decide)]; exact c, fun m a b hm ha hb' => by rw [p1 71 (by decide) (by decide) (by decide) (by decide)]; exact c71 m a b hm ha hb'⟩
  | inr s =>
    rw [hres] at k hrd
    have hrd : hsOk 6 (D 0 7) s := hrd
    have k : ∀ σ', RM (nwD D s.1) (fun a b m x y => s.2.2 (fct a b m x y)) It σ' → Φ (nI (D 0 2 + 1)) σ' := k
    refine fun σ2 h2 => ⟨fun _ => ⟨vp_in_nI (n := 1) (by decide) (by decide), vp_in_nI (n := 0) (by decide) (by decide), ?_⟩, fun z => absurd z (by decide)⟩
    obtain ⟨w1, w2, w3, w4, w5, w6, w7, w8, w9⟩ := h2
    have e691 : σ2.1 69 1 = nI (D 0 7) := by rw [w2 69 (by decide) (by decide) (by decide)]; exact o691
    rw [e691]
    have p1 : ∀ p, p ≠ 60 → p ≠ 69 → p ≠ 72 → p ≠ 73 → ∀ j, σ2.1 p j = σ.1 p j := fun p q1 q2 q3 q4 j => by rw [w2 p q1 q3 q4, o1 p q1 q2]
    have p60 : ∀ j, (j < 10 ∨ 10 < j ∧ j < 14 ∨ 18 < j ∧ j < 27 ∨ 33 < j) → σ2.1 60 j = σ.1 60 j := fun j hj => by rw [w3 j (by omega), o60 j (by omega)]
    suffices ∀ d i σ', i + d = D 0 7 → (∀ p, p ≠ 68 → p ≠ 69 → ∀ j, σ'.1 p j = σ2.1 p j) → σ'.2 = σ2.2 → σ'.1 69 1 = nI (D 0 7) → σ'.1 69 0 = nI (D 0 7) → (∀ j, 100 ≤ j → σ'.1 68 j = σ2.1 68 j) → (∀ j, j < i → σ'.1 68 j = sxI (D 8 j)) → L_X10_hall_45 l e Φ (nI i) σ' by
      refine this (D 0 7) 0 _ (by omega) (fun p _ p69 j => by rw [ui_1, if_neg (fun z => p69 z.1)]) rfl ?_ ?_ (fun j _ => by rw [ui_1, if_neg (fun z => absurd z.1 (by decide))]) (fun j hj => absurd hj (Nat.not_lt_zero j))
      · rw [ui_1, if_neg (by decide)]; exact e691
      · rw [ui_1, if_pos ⟨rfl, rfl⟩]
    intro d
    induction d with
    | zero =>
      intro i σ' hi v1 v2 v3 v4 v5 v6
      have hin : i = D 0 7 := by omega
      subst hin
      refine B_X10_hall_45 _ ⟨vp_in_nI (n := 1) (by decide) (by decide), fun _ => ?_, fun z => absurd (by rw [v3]; exact nI_le (Nat.le_refl _) (by omega)) z⟩
      have u : ∀ j, σ'.1 60 j = σ2.1 60 j := v1 60 (by decide) (by decide)
      have u9 : σ'.1 60 9 + 1 = nI (D 0 2 + 1) := by rw [u, p60 9 (by decide), c1, nI_1]
      rw [u9]
      obtain ⟨σ3, hσ3⟩ : ∃ σ3, σ3 = hv_ui (hv_ui (hv_ui (hv_ui (hv_ui (hv_ui σ' 60 19 (σ'.1 60 30)) 60 20 (σ'.1 60 31)) 60 21 (σ'.1 60 32)) 60 22 (σ'.1 60 33)) 60 24 0) 60 9 (nI (D 0 2 + 1)) := ⟨_, rfl⟩
      rw [← hσ3]
      have x1 : ∀ p, p ≠ 60 → ∀ j, σ3.1 p j = σ'.1 p j := fun p p60 j => by rw [hσ3]; simp only [ui_1, p60, false_and, if_false]
      have x60 : ∀ j, j ≠ 9 → j ≠ 19 → j ≠ 20 → j ≠ 21 → j ≠ 22 → j ≠ 24 → σ3.1 60 j = σ'.1 60 j := fun j q1 q2 q3 q4 q5 q6 => by rw [hσ3]; simp only [ui_1, q1, q2, q3, q4, q5, q6, and_false, if_false]
      have pp : ∀ p, p ≠ 60 → p ≠ 68 → p ≠ 69 → p ≠ 72 → p ≠ 73 → ∀ j, σ3.1 p j = σ.1 p j := fun p q1 q2 q3 q4 q5 j => by rw [x1 p q1, v1 p q2 q3, p1 p q1 q3 q4 q5]
      have pq : ∀ j, (j < 9 ∨ 10 < j ∧ j < 14 ∨ 24 < j ∧ j < 27 ∨ 33 < j) → σ3.1 60 j = σ.1 60 j := fun j hj => by rw [x60 j (by omega) (by omega) (by omega) (by omega) (by omega) (by omega), u, p60 j (by omega)]
      refine k σ3 ⟨⟨by rw [pq 0 (by decide)]; exact a1, by rw [pq 1 (by decide)]; exact a2, fun c hc => by rw [pp 67 (by decide) (by decide) (by decide) (by decide) (by decide)]; exact a3 c hc, fun c hc => by rw [pp 66 (by decide) (by decide) (by decide) (by decide) (by decide)]; exact a4 c hc, fun m a hm ha => ?_⟩, ⟨?_, fun i hi => absurd hi (Nat.not_lt_zero i)⟩, ⟨?_, ?_, ?_, ?_, ?_, Or.inr ⟨Nat.succ_pos _, fun k => D 8 k, D 0 7, s, hn, h8, ?_, fun i hi => ?_, hres, fun _ _ _ _ _ => rfl⟩⟩, ⟨fun j hj => by rw [pp 70 (by decide) (by decide) (by decide) (by decide) (by decide)]; exact hB.1 j hj, Or.inl ?_⟩, ⟨by rw [pq 46 (by decide)]; exact f1, fun i hi hi2 => by rw [pp 79 (by decide) (by decide) (by decide) (by decide) (by decide)]; exact f2 i hi hi2⟩, ⟨fun t ht => by rw [pp 80 (by decide) (by decide) (by decide) (by decide) (by decide), pp 81 (by decide) (by decide) (by decide) (by decide) (by decide)]; exact g1 t ht, fun t i ht hi => ?_⟩⟩
      · rw [pp 66 (by decide) (by decide) (by decide) (by decide) (by decide), pp 61 (by decide) (by decide) (by decide) (by decide) (by decide), pp 62 (by decide) (by decide) (by decide) (by decide) (by decide), pp 63 (by decide) (by decide) (by decide) (by decide) (by decide), pp 64 (by decide) (by decide) (by decide) (by decide) (by decide), pp 65 (by decide) (by decide) (by decide) (by decide) (by decide)]
        exact a5 m a hm ha
      · rw [x60 10 (by decide) (by decide) (by decide) (by decide) (by decide) (by decide), u, w3 10 (by decide), o10]; rfl
      · rw [hσ3, ui_1, if_pos ⟨rfl, rfl⟩]; rfl
      · have : σ3.1 60 19 = σ'.1 60 30 := by rw [hσ3]; simp [ui_1]
        rw [this, u, w5]; rfl
      · have : σ3.1 60 20 = σ'.1 60 31 := by rw [hσ3]; simp [ui_1]
        rw [this, u, w6]; rfl
      · have : σ3.1 60 21 = σ'.1 60 32 := by rw [hσ3]; simp [ui_1]
        rw [this, u, w7]; rfl
      · have : σ3.1 60 22 = σ'.1 60 33 := by rw [hσ3]; simp [ui_1]
        rw [this, u, w8]; rfl
      · rw [x1 69 (by decide)]; exact v4
      · rw [x1 68 (by decide)]; exact v6 i hi
      · rw [hσ3]; simp [ui_1]
      · have : σ3.2 = σ'.2 := by rw [hσ3]; rfl
        rw [this, v2, w1, o2]; exact g2 t i ht hi
    | succ d ih =>
      intro i σ' hi v1 v2 v3 v4 v5 v6
      refine B_X10_hall_45 _ ⟨vp_in_nI (n := 1) (by decide) (by decide), fun z => absurd z (by rw [v3]; exact nI_ge (by omega) (by omega)), fun _ => ?_⟩
      have e1 : (100 : Int32) + nI i = nI (100 + i) := by rw [show (100 : Int32) = nI 100 from rfl, nI_add]
      have e68 : σ'.1 68 (100 + i) = sxI (D 8 i) := by rw [v5 _ (by omega), p1 68 (by decide) (by decide) (by decide) (by decide)]; exact b2 i (by omega)
      rw [e1, nI_clamp (by omega), nI_clamp (by omega), e68, nI_1]
      refine ⟨vp_in_nI (by omega) (by decide), vp_in_nI (by omega) (by decide), ih (i + 1) _ (by omega) (fun p q1 q2 j => ?_) v2 ?_ ?_ (fun j hj => ?_) (fun j hj => ?_)⟩
      · rw [ui_1, if_neg (fun z => q1 z.1)]; exact v1 p q1 q2 j
      · rw [ui_1, if_neg (fun z => absurd z.1 (by decide))]; exact v3
      · rw [ui_1, if_neg (fun z => absurd z.1 (by decide))]; exact v4
      · rw [ui_1, if_neg (fun z => by omega)]; exact v5 j hj
      · rw [ui_1]
        by_cases c : j = i
        · rw [if_pos ⟨rfl, c⟩, c]
        · rw [if_neg (fun z => c z.2)]; exact v6 j (by omega)
-- acts
def bkI (D : hD) (hb : hB) (It : hT) (L : List Nat) (σ : hv_S) : Prop := RM (acD D L) hb It σ
theorem y_body {Φ : hv_S → Prop} {L : List Nat} {b : Nat} (h : bkI D hb It L σ) (hL : L.length < 20) (kk : ∀ σ', bkI D hb It (L ++ [b]) σ' → Φ σ') : hv_CV l (hv_e2 e) 0 m_X10_body [.ref 60, .int (nI b)] σ Φ := by
  obtain ⟨⟨a1, a2, a3, a4, a5⟩, hT, hL', hB, ⟨f1, f2⟩, hP⟩ := h
  have f1 : σ.1 60 46 = nI L.length := f1
  refine B_X10_body _ ?_
  rw [f1, nI_clamp (by omega), nI_1]
  refine ⟨fun q => absurd q (nI_ge (a := L.length) (b := 20) hL (by decide)), fun _ => ⟨vp_in_nI hL (by decide), kk _ ⟨⟨a1, a2, a3, a4, a5⟩, hT, hL', hB, ⟨?_, fun j hj hj2 => ?_⟩, hP⟩⟩⟩
  · rw [ui_1, if_pos ⟨rfl, rfl⟩]
    show nI (L.length + 1) = nI (L ++ [b]).length
    rw [List.length_append]; rfl
  · have hj : j < (L ++ [b]).length := hj
    rw [List.length_append] at hj
    have hj : j < L.length + 1 := hj
    have e1 : acD D (L ++ [b]) 9 (1 + j) = (L ++ [b]).getD j 0 := by
      show (if 1 + j = 0 then (L ++ [b]).length else (L ++ [b]).getD (1 + j - 1) 0) = _
      rw [if_neg (by omega), Nat.add_sub_cancel_left]
    rw [e1, getD_app, ui_1, if_neg (fun z => absurd z.1 (by decide)), ui_1]
    by_cases c : j = L.length
    · rw [if_pos ⟨rfl, c⟩, if_neg (by omega), if_pos c]
    · rw [if_neg (fun z => c z.2), if_pos (by omega)]
      have := f2 j (show j < L.length by omega) hj2
      have e2 : acD D L 9 (1 + j) = L.getD j 0 := by
        show (if 1 + j = 0 then L.length else L.getD (1 + j - 1) 0) = _
        rw [if_neg (by omega), Nat.add_sub_cancel_left]
      rw [e2] at this
      exact this
section AK
variable {m a : Nat} {L : List Nat}
theorem bk_kind (h : bkI D hb It L σ) (hm : m < 3) (ha : a < D 0 0) : σ.1 61 (8 * m + a) = nI (D 1 (8 * m + a)) := (h.1.2.2.2.2 m a hm ha).2.1
theorem y_plainGives {Φ : Int32 → hv_S → Prop} (x : Int32) (h : bkI D hb It L σ) (hL : L.length < 20) (kk : ∀ σ', bkI D hb It (L ++ [10]) σ' → Φ (x + nI a) σ') : hv_CI l (hv_e2 e) 1 m_X10_plainGives [.ref 60, .int (nI a), .int x] σ Φ :=
  B_X10_plainGives _ _ (y_body (b := 10) h hL kk)
theorem y_giveGives {Φ : Int32 → hv_S → Prop} (x : Int32) (h : bkI D hb It L σ) (hL : L.length < 19) (kk : ∀ σ', bkI D hb It (L ++ [30] ++ [10]) σ' → Φ (x * 2 + nI a) σ') : hv_CI l (hv_e2 e) 2 m_X10_giveGives [.ref 60, .int (nI a), .int x] σ Φ :=
  B_X10_giveGives _ _ (y_body (b := 30) h (by omega) (fun σ1 h1 => y_plainGives _ h1 (by rw [List.length_append]; simp; omega) kk))
theorem y_gives {Φ : Int32 → hv_S → Prop} (x : Int32) (h : bkI D hb It L σ) (hn : D 0 0 ≤ 8) (hm : m < 3) (ha : a < D 0 0) (h6 : D 1 (8 * m + a) < 6) (hL : L.length ≤ 16) (kk : ∀ σ', bkI D hb It (L ++ gvB (D 1 (8 * m + a))) σ' → Φ (gvV (D 1 (8 * m + a)) a m x) σ') : hv_CI l (hv_e2 e) 3 m_X10_gives [.ref 60, .int (nI a), .int (nI m), .int x] σ Φ := by
  refine B_X10_gives _ _ _ ?_
  rw [cellM, nI_clamp (by omega), bk_kind h hm ha]
  generalize D 1 (8 * m + a) = k at *
  have c4 : nI k = 4 ↔ k = 4 := nI4 (b := 4) h6 (by decide)
  have c2 : nI k < 2 ↔ k < 2 := nI_ltI (b := 2) (by omega) (by decide)
  rw [ne_eq, c4, c2]
  refine ⟨vp_in_nI (by omega) (by decide), fun q => ⟨fun q2 => ?_, fun q2 => ?_⟩, fun q => ?_⟩
  · refine y_plainGives x h (by omega) (fun σ1 h1 => ?_)
    have := kk σ1 (by unfold gvB; rw [if_neg q, if_neg (by omega)]; exact h1)
    unfold gvV at this
    rw [if_neg q, if_neg (by omega)] at this; exact this
  · refine y_giveGives x h (by omega) (fun σ1 h1 => ?_)
    have := kk σ1 (by unfold gvB; rw [if_neg q, if_pos (by omega)]; rw [List.append_assoc] at h1; exact h1)
    unfold gvV at this
    rw [if_neg q, if_pos (by omega)] at this; exact this
  · refine y_body (b := 51) h (by omega) (fun σ1 h1 => y_giveGives x h1 (by rw [List.length_append]; simp; omega) (fun σ2 h2 => ?_))
    have := kk σ2 (by unfold gvB; rw [if_pos q, if_pos (by omega)]; rw [List.append_assoc, List.append_assoc] at h2; exact h2)
    unfold gvV at this
    rw [if_pos q, if_pos (by omega)] at this; exact this
theorem y_plainHolds {Φ : Int32 → hv_S → Prop} (x : Int32) (h : bkI D hb It L σ) (hn : D 0 0 ≤ 8) (hm : m < 3) (ha : a < D 0 0) (h6 : D 1 (8 * m + a) < 6) (hL : L.length ≤ 15) (kk : ∀ σ', bkI D hb It (L ++ [11] ++ gvB (D 1 (8 * m + a))) σ' → Φ (gvV (D 1 (8 * m + a)) a m x - nI m) σ') : hv_CI l (hv_e2 e) 4 m_X10_plainHolds [.ref 60, .int (nI a), .int (nI m), .int x] σ Φ :=
  B_X10_plainHolds _ _ _ (y_body (b := 11) h (by omega) (fun σ1 h1 => y_gives x h1 hn hm ha h6 (by rw [List.length_append]; simp; omega) kk))
theorem y_giveHolds {Φ : Int32 → hv_S → Prop} (x : Int32) (h : bkI D hb It L σ) (hn : D 0 0 ≤ 8) (hm : m < 3) (ha : a < D 0 0) (h6 : D 1 (8 * m + a) < 6) (hL : L.length ≤ 14) (kk : ∀ σ', bkI D hb It (L ++ [31] ++ [11] ++ gvB (D 1 (8 * m + a))) σ' → Φ (-(gvV (D 1 (8 * m + a)) a m x - nI m)) σ') : hv_CI l (hv_e2 e) 5 m_X10_giveHolds [.ref 60, .int (nI a), .int (nI m), .int x] σ Φ :=
  B_X10_giveHolds _ _ _ (y_body (b := 31) h (by omega) (fun σ1 h1 => y_plainHolds x h1 hn hm ha h6 (by rw [List.length_append]; simp; omega) kk))
theorem y_holds {Φ : Int32 → hv_S → Prop} (x : Int32) (h : bkI D hb It L σ) (hn : D 0 0 ≤ 8) (hm : m < 3) (ha : a < D 0 0) (h6 : D 1 (8 * m + a) < 6) (hL : L.length ≤ 10) (kk : ∀ σ', bkI D hb It (L ++ hdB (D 1 (8 * m + a))) σ' → Φ (hdV (D 1 (8 * m + a)) a m x) σ') : hv_CI l (hv_e2 e) 6 m_X10_holds [.ref 60, .int (nI a), .int (nI m), .int x] σ Φ := by
  refine B_X10_holds _ _ _ ?_
  rw [cellM, nI_clamp (by omega), bk_kind h hm ha]
  have c3 : nI (D 1 (8 * m + a)) = 3 ↔ D 1 (8 * m + a) = 3 := nI4 (b := 3) h6 (by decide)
  have c2 : nI (D 1 (8 * m + a)) < 2 ↔ D 1 (8 * m + a) < 2 := nI_ltI (b := 2) (by omega) (by decide)
  have hgl := gvB_l (D 1 (8 * m + a))
  rw [ne_eq, c3, c2]
  refine ⟨vp_in_nI (by omega) (by decide), fun q => ⟨fun q2 => ?_, fun q2 => ?_⟩, fun q => ?_⟩
  · refine y_plainHolds x h hn hm ha h6 (by omega) (fun σ1 h1 => ?_)
    have := kk σ1 (by unfold hdB; rw [if_neg q, if_neg (by omega), if_neg q]; simp; rw [List.append_assoc] at h1; exact h1)
    unfold hdV at this
    rw [if_neg (by omega), if_neg q, Int32.add_zero] at this; exact this
  · refine y_giveHolds x h hn hm ha h6 (by omega) (fun σ1 h1 => ?_)
    have := kk σ1 (by unfold hdB; rw [if_neg q, if_pos (by omega), if_neg q]; simp; rw [List.append_assoc, List.append_assoc] at h1; exact h1)
    unfold hdV at this
    rw [if_pos (by omega), if_neg q, Int32.add_zero] at this; exact this
  · refine y_body (b := 40) h (by omega) (fun σ1 h1 => y_giveHolds x h1 hn hm ha h6 (by rw [List.length_append]; simp; omega) (fun σ2 h2 => y_gives 1 h2 hn hm ha h6 (by simp only [List.length_append]; simp; omega) (fun σ3 h3 => ?_)))
    have := kk σ3 (by unfold hdB; rw [if_pos q, if_pos (by omega), if_pos q]; simp only [List.append_assoc] at h3 ⊢; exact h3)
    unfold hdV at this
    rw [if_pos (by omega), if_pos q] at this; exact this
theorem y_plainTells {Φ : Int32 → hv_S → Prop} (x : Int32) (h : bkI D hb It L σ) (hn : D 0 0 ≤ 8) (hm : m < 3) (ha : a < D 0 0) (h6 : D 1 (8 * m + a) < 6) (hL : L.length ≤ 9) (kk : ∀ σ', bkI D hb It (L ++ ([12] ++ hdB (D 1 (8 * m + a)))) σ' → Φ (hdV (D 1 (8 * m + a)) a m x * 2) σ') : hv_CI l (hv_e2 e) 7 m_X10_plainTells [.ref 60, .int (nI a), .int (nI m), .int x] σ Φ :=
  B_X10_plainTells _ _ _ (y_body (b := 12) h (by omega) (fun σ1 h1 => y_holds x h1 hn hm ha h6 (by rw [List.length_append]; simp; omega) (fun σ2 h2 => kk σ2 (by rw [List.append_assoc] at h2; exact h2))))
theorem y_tells {Φ : Int32 → hv_S → Prop} (x : Int32) (h : bkI D hb It [] σ) (hn : D 0 0 ≤ 8) (hm : m < 3) (ha : a < D 0 0) (h6 : D 1 (8 * m + a) < 6) (kk : ∀ σ', bkI D hb It (tlB (D 1 (8 * m + a))) σ' → Φ (tlV (D 1 (8 * m + a)) a m x) σ') : hv_CI l (hv_e2 e) 8 m_X10_tells [.ref 60, .int (nI a), .int (nI m), .int x] σ Φ := by
  refine B_X10_tells _ _ _ ?_
  rw [cellM, nI_clamp (by omega), bk_kind h hm ha]
  have cc : ∀ b, b < 6 → (nI (D 1 (8 * m + a)) = nI b ↔ D 1 (8 * m + a) = b) := fun b hb6 => nI4 h6 hb6
  have pl : (¬ D 1 (8 * m + a) = 5 ∧ ¬ D 1 (8 * m + a) = 4 ∧ ¬ D 1 (8 * m + a) = 1) → hv_CI l (hv_e2 e) 7 m_X10_plainTells [.ref 60, .int (nI a), .int (nI m), .int x] σ (fun v s => Φ v s) := fun q => by
    refine y_plainTells x h hn hm ha h6 (by decide) (fun σ1 h1 => ?_)
    have eB : tlB (D 1 (8 * m + a)) = [12] ++ hdB (D 1 (8 * m + a)) := by unfold tlB; rw [if_neg q.1, if_neg q.2.1, if_neg q.2.2]
    have eV : tlV (D 1 (8 * m + a)) a m x = hdV (D 1 (8 * m + a)) a m x * 2 := by unfold tlV; rw [if_neg q.1, if_neg q.2.1, if_neg q.2.2]
    rw [eB, eV] at kk
    exact kk σ1 h1
  refine ⟨vp_in_nI (by omega) (by decide), fun q => ?_, fun q => pl ?_, fun q => pl ?_, fun q => ?_, fun q => ?_, fun q1 q2 q3 q4 q5 => pl ⟨fun c => q5 (by rw [c]; rfl), fun c => q4 (by rw [c]; rfl), fun c => q1 (by rw [c]; rfl)⟩⟩
  · have q1 := (cc 1 (by decide)).mp q
    refine y_body (b := 20) h (by decide) (fun σ1 h1 => y_plainTells x h1 hn hm ha h6 (by decide) (fun σ2 h2 => ?_))
    have eB : tlB (D 1 (8 * m + a)) = [20] ++ ([12] ++ hdB (D 1 (8 * m + a))) := by unfold tlB; rw [if_neg (by omega), if_neg (by omega), if_pos q1]
    have eV : tlV (D 1 (8 * m + a)) a m x = hdV (D 1 (8 * m + a)) a m x * 2 ^^^ 7 := by unfold tlV; rw [if_neg (by omega), if_neg (by omega), if_pos q1]
    rw [eB, eV] at kk
    exact kk σ2 h2
  · have q1 := (cc 2 (by decide)).mp q
    omega
  · have q1 := (cc 3 (by decide)).mp q
    omega
  · have q1 := (cc 4 (by decide)).mp q
    refine y_body (b := 50) h (by decide) (fun σ1 h1 => y_plainTells _ h1 hn hm ha h6 (by decide) (fun σ2 h2 => ?_))
    have eB : tlB (D 1 (8 * m + a)) = [50] ++ ([12] ++ hdB (D 1 (8 * m + a))) := by unfold tlB; rw [if_neg (by omega), if_pos q1]
    have eV : tlV (D 1 (8 * m + a)) a m x = hdV (D 1 (8 * m + a)) a m (x - nI a) * 2 := by unfold tlV; rw [if_neg (by omega), if_pos q1]
    rw [eB, eV] at kk
    exact kk σ2 h2
  · have q1 := (cc 5 (by decide)).mp q
    have hl3 := hdB_l3 (D 1 (8 * m + a)) (by omega)
    refine y_body (b := 60) h (by decide) (fun σ1 h1 => y_holds x h1 hn hm ha h6 (by decide) (fun σ2 h2 => y_plainTells x h2 hn hm ha h6 (by simp only [List.length_append]; simp; omega) (fun σ3 h3 => ?_)))
    have eB : tlB (D 1 (8 * m + a)) = [60] ++ hdB (D 1 (8 * m + a)) ++ ([12] ++ hdB (D 1 (8 * m + a))) := by unfold tlB; rw [if_pos q1]
    have eV : tlV (D 1 (8 * m + a)) a m x = hdV (D 1 (8 * m + a)) a m x - hdV (D 1 (8 * m + a)) a m x * 2 := by unfold tlV; rw [if_pos q1]
    rw [eB, eV] at kk
    exact kk σ3 h3
end AK
theorem y_act {Φ : Int32 → hv_S → Prop} (hR : RM D hb It σ) (hW : hWF D) (x y z w : Int32) (kk : ∀ σ', RM (acR D x y z w).2 hb It σ' → Φ (acR D x y z w).1 σ') : hv_CI l (hv_e2 e) 9 m_X10_act [.ref 60, .int x, .int y, .int z, .int w] σ Φ := by
  have hn := hW.1
  unfold acR at kk
  have hR1 : bkI D hb It [] (hv_ui σ 60 46 0) := by
    obtain ⟨⟨a1, a2, a3, a4, a5⟩, hT, hL', hB, ⟨f1, f2⟩, hP⟩ := hR
    exact ⟨⟨a1, a2, a3, a4, a5⟩, hT, hL', hB, ⟨rfl, fun j hj _ => absurd hj (Nat.not_lt_zero j)⟩, hP⟩
  have hW1 : hWF (acD D []) := acD_W hW (by decide)
  refine B_X10_act _ _ _ _ (y_isMember hR1 hW1 x (fun h => ⟨fun _ => ?_, fun q => absurd rfl q⟩) (fun a ha hx => ⟨fun q => absurd q (by decide), fun _ => y_isMatter y (fun h => ⟨fun _ => ?_, fun q => absurd rfl q⟩) (fun m hm hy => ⟨fun q => absurd q (by decide), fun _ => y_inR (n := 2) (by decide) rfl (fun q => ⟨fun z => absurd rfl z, fun _ => ?_⟩) (fun q s hs hz => ⟨fun _ => ?_, fun z => absurd z (by decide)⟩)⟩)⟩))
  · rw [an1_out (by omega) (show ∀ m, m < D 0 0 → x ≠ nI m from h)] at kk; exact kk _ hR1
  · rw [hx, an1_in (by omega) (show a < D 0 0 from ha), an1_out (by omega) h] at kk; exact kk _ hR1
  · rw [hx, an1_in (by omega) (show a < D 0 0 from ha), hy, an1_in (by omega) hm, if_pos q] at kk; exact kk _ hR1
  · have ha : a < D 0 0 := ha
    rw [hx, an1_in (by omega) ha, hy, an1_in (by omega) hm, if_neg q] at kk
    subst hx
    subst hy
    have h6 : D 1 (8 * m + a) < 6 := by have := (hW.2.2.2.2.2.2.2.2.2.1 (8 * m + a) (by omega)).1; omega
    refine ⟨fun q1 => ⟨fun q2 => ?_, fun q2 => ?_⟩, fun q1 => ?_⟩
    · rw [if_neg q1, if_neg q2] at kk
      exact y_tells w hR1 hn hm ha h6 (fun σ' h => kk σ' h)
    · rw [if_neg q1, if_pos q2] at kk
      exact y_holds w hR1 hn hm ha h6 (by decide) (fun σ' h => kk σ' h)
    · rw [if_pos q1] at kk
      exact y_gives w hR1 hn hm ha h6 (by decide) (fun σ' h => kk σ' h)
theorem y_trace {Φ : Int32 → hv_S → Prop} (hR : RM D hb It σ) (hW : hWF D) (x : Int32) (kk : Φ (trA D x) σ) : hv_CI l (hv_e2 e) 1 m_X10_trace [.ref 60, .int x] σ Φ := by
  have h9 : D 9 0 ≤ 100 := hW.2.2.2.2.2.2.2.2.2.2.2.2.1
  unfold trA at kk
  refine B_X10_trace _ (y_inN (n := 20) (by decide) (by decide) (fun h => ⟨fun _ => ?_, fun z => absurd rfl z⟩) (fun n hn hx => ⟨fun z => absurd z (by decide), fun _ => ?_⟩))
  · rw [an1_out (by omega) (fun m hm => h m (by omega))] at kk; exact kk
  · subst hx
    rw [hR.2.2.2.2.1.1, nI_leI (by omega) (by omega), nI_clamp (by omega)]
    refine ⟨fun q => ?_, fun q => ⟨vp_in_nI hn (by decide), ?_⟩⟩
    · rw [an1_out (by omega) (fun m hm hx => by have := (nI_eq (by omega) (by omega)).mp hx; omega)] at kk; exact kk
    · rw [an1_in (by omega) (by omega)] at kk
      rw [hR.2.2.2.2.1.2 n (by omega) hn]
      exact kk
end RH
