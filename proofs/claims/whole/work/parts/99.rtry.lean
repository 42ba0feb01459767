-- THE REFERENCE: what would be, if a hand were another
def kI (D : hD) (c : Nat) (σ : hv_S) : Prop := σ.1 77 0 = nI (D 1 c) ∧ σ.1 77 1 = nI (D 2 c) ∧ σ.1 77 2 = nmM (D 3 c) ∧ σ.1 77 3 = nmM (D 4 c) ∧ σ.1 77 4 = nI (D 5 c)
theorem kI.of {D : hD} {c : Nat} {σ σ' : hv_S} (h : kI D c σ) (e : ∀ j, σ'.1 77 j = σ.1 77 j) : kI D c σ' := by
  obtain ⟨h1, h2, h3, h4, h5⟩ := h
  exact ⟨by rw [e]; exact h1, by rw [e]; exact h2, by rw [e]; exact h3, by rw [e]; exact h4, by rw [e]; exact h5⟩
theorem RM.k {D : hD} {hb : hB} {It : hT} {σ σ' : hv_S} (h : RM D hb It σ) (o : ∀ p, p ≠ 77 ∧ p ≠ 78 → ∀ j, σ'.1 p j = σ.1 p j) (h2 : σ'.2 = σ.2) : RM D hb It σ' := by
  obtain ⟨⟨a1, a2, a3, a4, a5⟩, ⟨b1, b2⟩, ⟨c1, c2, c3, c4, c5, c6⟩, hB, ⟨f1, f2⟩, ⟨g1, g2⟩⟩ := h
  have s60 := o 60 (by decide)
  refine ⟨⟨by rw [s60]; exact a1, by rw [s60]; exact a2, fun c hc => by rw [o 67 (by decide)]; exact a3 c hc, fun c hc => by rw [o 66 (by decide)]; exact a4 c hc, fun m a hm ha => ?_⟩, ⟨by rw [s60]; exact b1, fun k hk => by rw [o 68 (by decide)]; exact b2 k hk⟩, ⟨by rw [s60]; exact c1, by rw [s60]; exact c2, by rw [s60]; exact c3, by rw [s60]; exact c4, by rw [s60]; exact c5, ?_⟩, hB.of (s60 24) (o 71 (by decide)) (o 70 (by decide)), ⟨by rw [s60]; exact f1, fun k hk hk2 => by rw [o 79 (by decide)]; exact f2 k hk hk2⟩, ⟨fun t ht => by rw [o 80 (by decide), o 81 (by decide)]; exact g1 t ht, fun t i ht hi => by rw [h2]; exact g2 t i ht hi⟩⟩
  · rw [o 66 (by decide), o 61 (by decide), o 62 (by decide), o 63 (by decide), o 64 (by decide), o 65 (by decide)]; exact a5 m a hm ha
  · rcases c6 with c6 | ⟨c7, T, n, s, d1, d2, d3, d4, d5⟩
    · exact Or.inl c6
    · exact Or.inr ⟨c7, T, n, s, d1, d2, by rw [o 69 (by decide)]; exact d3, fun k hk => by rw [o 68 (by decide)]; exact d4 k hk, d5⟩
theorem vmI.he {σ σ' : hv_S} {n : Nat} {W : Int} {v : Nat → Int} (h : vmI σ n W v) (e : σ'.2 = σ.2) : vmI σ' n W v := ⟨by rw [e]; exact h.1, fun a ha => by rw [e]; exact h.2.1 a ha, h.2.2⟩
theorem rgI.he {D : hD} {m : Nat} {v : Nat → Int} {σ σ' : hv_S} (h : rgI D m v σ) (e : σ'.2 = σ.2) : rgI D m v σ' := ⟨by rw [e]; exact h.1, by rw [e]; exact h.2⟩
-- the same hands
theorem pf_same {D D' : hD} (hb : hB) (m : Nat) (e : ∀ i, (i = 0 ∨ 6 ≤ i) → ∀ j, D' i j = D i j) : pfD D' hb m = pfD D hb m := by
  unfold pfD bar
  have e6 := e 6 (Or.inr (by decide))
  have h6 : (fun a => D' 6 (8 * m + a)) = fun a => D 6 (8 * m + a) := funext (fun a => e6 _)
  have hb' : (fun a b => hb a b m (D' 6 (8 * m + b)) (D' 6 (8 * m + a))) = fun a b => hb a b m (D 6 (8 * m + b)) (D 6 (8 * m + a)) := funext (fun a => funext (fun b => by rw [e6, e6]))
  rw [h6, hb', e 0 (Or.inl rfl)]
theorem cn_give {D : hD} {hb : hB} {m a b : Nat} (hn : D 0 0 ≤ 8) (hw : D 0 1 ≤ 99) : cnV (rnD D (8 * m + a) 2 b 9 10) hb m ((rnD D (8 * m + a) 2 b 9 10) 0 1) 0 none = cnV D hb m (D 0 1) 0 (some (a, b)) := by
  have e : ∀ i, (i = 0 ∨ 6 ≤ i) → ∀ j, rnD D (8 * m + a) 2 b 9 10 i j = D i j := fun i hi j => rn_n D _ _ _ _ _ hi j
  rw [e 0 (Or.inl rfl)]
  refine cnV_congr (pf_same hb m e) (e 0 (Or.inl rfl) 6) (e 0 (Or.inl rfl) 3) (fun a' ha' => ?_)
  rw [e 0 (Or.inl rfl)] at ha'
  show ehS 0 (ehD (rnD D (8 * m + a) 2 b 9 10) m (D 0 1)) a' = ehG a b (ehS 0 (ehD D m (D 0 1))) a'
  rw [ehS0, ehS0]
  unfold ehG
  by_cases c : a' = a
  · subst c
    rw [if_pos rfl]
    unfold ehD
    rw [rn_1, rn_2, rn_3, rn_4, rn_5, if_pos ⟨by omega, by decide⟩]
  · rw [if_neg c]
    unfold ehD
    have hc : 8 * m + a' ≠ 8 * m + a := by omega
    rw [rn_o _ _ _ _ _ _ hc, rn_o _ _ _ _ _ _ hc, rn_o _ _ _ _ _ _ hc, rn_o _ _ _ _ _ _ hc, rn_o _ _ _ _ _ _ hc]
theorem cn_self {D : hD} {hb : hB} {m a : Nat} (hn : D 0 0 ≤ 8) (hw : D 0 1 ≤ 99) : cnV (rnD D (8 * m + a) 1 9 9 0) hb m ((rnD D (8 * m + a) 1 9 9 0) 0 1) 0 none = cnV D hb m (D 0 1) (2 ^ a) none := by
  have e : ∀ i, (i = 0 ∨ 6 ≤ i) → ∀ j, rnD D (8 * m + a) 1 9 9 0 i j = D i j := fun i hi j => rn_n D _ _ _ _ _ hi j
  rw [e 0 (Or.inl rfl)]
  refine cnV_congr (pf_same hb m e) (e 0 (Or.inl rfl) 6) (e 0 (Or.inl rfl) 3) (fun a' ha' => ?_)
  show ehS 0 (ehD (rnD D (8 * m + a) 1 9 9 0) m (D 0 1)) a' = ehS (2 ^ a) (ehD D m (D 0 1)) a'
  rw [ehS0]
  unfold ehS
  rw [tb_2]
  by_cases c : a = a'
  · subst c
    rw [if_pos (by simp)]
    unfold ehD
    rw [rn_1, rn_2, if_neg (fun z => absurd z.2 (by decide))]
  · rw [if_neg (by simpa using c)]
    unfold ehD
    have hc : 8 * m + a' ≠ 8 * m + a := by omega
    rw [rn_o _ _ _ _ _ _ hc, rn_o _ _ _ _ _ _ hc, rn_o _ _ _ _ _ _ hc, rn_o _ _ _ _ _ _ hc, rn_o _ _ _ _ _ _ hc]
theorem chn_same {D D' : hD} {m : Nat} (v : Nat → Int) (e : ∀ i, (i = 0 ∨ 6 ≤ i) → ∀ j, D' i j = D i j) : chn D' m v = chn D m v ∧ vts D' v = vts D v ∧ cha D' m v = cha D m v := by
  have e0 : D' 0 = D 0 := funext (e 0 (Or.inl rfl))
  have e6 : D' 6 = D 6 := funext (e 6 (Or.inr (by decide)))
  have h1 : chn D' m v = chn D m v := by unfold chn dcd; rw [e0, e6]
  have h2 : vts D' v = vts D v := by unfold vts; rw [e0]
  exact ⟨h1, h2, by unfold cha; rw [h1, h2]⟩
theorem lik_lt {x T A y T' B : Int} (hT : 0 < T) (hT' : 0 < T') (e1 : x * 100000000 = A * T) (e2 : y * 100000000 = B * T') : x * T' < y * T ↔ A < B := by
  have h1 : x * T' < y * T ↔ (x * T') * 100000000 < (y * T) * 100000000 := by omega
  have h2 : (x * T') * 100000000 = A * (T * T') := by
    have : (x * T') * 100000000 = (x * 100000000) * T' := by grind
    rw [this, e1]; grind
  have h3 : (y * T) * 100000000 = B * (T * T') := by
    have : (y * T) * 100000000 = (y * 100000000) * T := by grind
    rw [this, e2]; grind
  rw [h1, h2, h3]
  exact Int.mul_lt_mul_right (Int.mul_pos hT hT')
section TY
variable {l : Launch} {e : hv_Ev} {σ : hv_S} {D : hD} {hb : hB} {It : hT}
theorem y_keep {Φ : hv_S → Prop} {m a : Nat} (hR : RM D hb It σ) (hW : hWF D) (hm : m < 3) (ha : a < D 0 0) (k : ∀ σ', σ'.2 = σ.2 → (∀ p, p ≠ 77 → ∀ j, σ'.1 p j = σ.1 p j) → RM D hb It σ' → kI D (8 * m + a) σ' → Φ σ') : hv_CV l (hv_e2 e) 0 m_X10_keep [.ref 60, .int (nI a), .int (nI m)] σ Φ := by
  have hn := hW.1
  obtain ⟨g6, g1, g2, g3, g4, g5⟩ := hR.1.2.2.2.2 m a hm ha
  refine B_X10_keep _ _ ?_
  rw [cellM, nI_clamp (by omega), g1, g2, g3, g4, g5]
  have hv : vp_in (nI (8 * m + a)) 24 := vp_in_nI (by omega) (by decide)
  have v0 : ∀ j, j < 24 → vp_in (nI j) 24 := fun j hj => vp_in_nI hj (by decide)
  have ho : ∀ p, p ≠ 77 → ∀ j, (hv_ui (hv_ui (hv_ui (hv_ui (hv_ui σ 77 0 (nI (D 1 (8 * m + a)))) 77 1 (nI (D 2 (8 * m + a)))) 77 2 (nmM (D 3 (8 * m + a)))) 77 3 (nmM (D 4 (8 * m + a)))) 77 4 (nI (D 5 (8 * m + a)))).1 p j = σ.1 p j := fun p hp j => by simp only [ui_1, hp, false_and, if_false]
  refine ⟨hv, v0 0 (by decide), hv, v0 1 (by decide), hv, v0 2 (by decide), hv, v0 3 (by decide), hv, v0 4 (by decide), k _ rfl ho (hR.k (fun p hp j => ho p hp.1 j) rfl) ⟨?_, ?_, ?_, ?_, ?_⟩⟩ <;> simp [ui_1]
theorem y_putBack {Φ : hv_S → Prop} {D' : hD} {m a : Nat} (hR : RM D' hb It σ) (hW : hWF D) (hm : m < 3) (ha : a < D 0 0) (e0 : ∀ i, (i = 0 ∨ 6 ≤ i) → ∀ j, D' i j = D i j) (eo : ∀ i c, c ≠ 8 * m + a → D' i c = D i c) (hk : kI D (8 * m + a) σ) (k : ∀ σ', HE σ σ' → RM D hb It σ' → Φ σ') :
    hv_CV l (hv_e2 e) 1 m_X10_putBack [.ref 60, .int (nI a), .int (nI m)] σ Φ := by
  have hn := hW.1
  obtain ⟨h0, h1, h2, h3, h4⟩ := hk
  have v0 : ∀ j, j < 24 → vp_in (nI j) 24 := fun j hj => vp_in_nI hj (by decide)
  have hv : vp_in (nI (8 * m + a)) 24 := vp_in_nI (by omega) (by decide)
  refine B_X10_putBack _ _ ⟨v0 0 (by decide), v0 2 (by decide), v0 3 (by decide), v0 4 (by decide), ?_⟩
  rw [cellM, h0, h2, h3, h4]
  have n0 : D' 0 0 = D 0 0 := e0 0 (Or.inl rfl) 0
  refine y_put (D := D') (k := D 1 (8 * m + a)) (f := D 3 (8 * m + a)) (g := D 4 (8 * m + a)) (x := D 5 (8 * m + a)) hR (by omega) hm (by omega) (fun σ1 hE hR1 => ⟨v0 1 (by decide), hv, ?_⟩)
  have e77 : σ1.1 77 1 = nI (D 2 (8 * m + a)) := by rw [hE.2 77 (by decide)]; exact h1
  rw [nI_clamp (by omega), e77]
  have ho : ∀ p, (p < 61 ∨ 65 < p) → ∀ j, (hv_ui σ1 62 (8 * m + a) (nI (D 2 (8 * m + a)))).1 p j = σ1.1 p j := fun p hp j => by rw [ui_1, if_neg (fun z => by omega)]
  refine k _ ⟨hE.1, fun p hp j => (ho p hp j).trans (hE.2 p hp j)⟩ (hR1.hands (fun i hi j => ?_) ho rfl (fun m' a' hm' ha' => ?_))
  · rw [rn_n _ _ _ _ _ _ hi]; exact (e0 i hi j).symm
  · obtain ⟨g6, g1, g2, g3, g4, g5⟩ := hR1.1.2.2.2.2 m' a' hm' ha'
    by_cases q : 8 * m' + a' = 8 * m + a
    · rw [q] at g1 g2 g3 g4 g5 ⊢
      rw [rn_1] at g1
      rw [rn_3] at g3
      rw [rn_4] at g4
      rw [rn_5] at g5
      refine ⟨?_, ?_, ?_, ?_, ?_⟩
      · rw [ui_1, if_neg (fun z => absurd z.1 (by decide))]; exact g1
      · rw [ui_1, if_pos ⟨rfl, rfl⟩]
      · rw [ui_1, if_neg (fun z => absurd z.1 (by decide))]; exact g3
      · rw [ui_1, if_neg (fun z => absurd z.1 (by decide))]; exact g4
      · rw [ui_1, if_neg (fun z => absurd z.1 (by decide))]; exact g5
    · rw [rn_o _ _ _ _ _ _ q, eo _ _ q] at g1 g2 g3 g4 g5
      refine ⟨?_, ?_, ?_, ?_, ?_⟩ <;> rw [ui_1, if_neg (fun z => q z.2)] <;> assumption
/-- a hand kept, another put, voices found -/
theorem y_give1 {Φ : hv_S → Prop} {m a b : Nat} (hR : RM D hb It σ) (hW : hWF D) (hm : m < 3) (ha : a < D 0 0) (hb' : b < D 0 0) (hne : b ≠ a) (hk : kI D (8 * m + a) σ)
    (k : ∀ σ' W v, RM (rnD D (8 * m + a) 2 b 9 10) hb It σ' → kI D (8 * m + a) σ' → vmI σ' (D 0 0) W v → prp W v (cnV D hb m (D 0 1) 0 (some (a, b))).1 (cnV D hb m (D 0 1) 0 (some (a, b))).2 → Φ σ') :
    hv_CV l (hv_e2 e) 0 m_X10_put [.ref 60, .int ((8 * nI m) + nI a), .int 2, .int (nI b), .int (-1), .int 10] σ (fun s26 => hv_CV l (hv_e2 e) 12 m_X10_findVoices [.ref 60, .int (nI m), .int (s26.1 60 1)] s26 (fun s29 => Φ s29)) := by
  have hn := hW.1
  rw [cellM]
  have := y_put (l := l) (e := e) (Φ := fun s26 => hv_CV l (hv_e2 e) 12 m_X10_findVoices [.ref 60, .int (nI m), .int (s26.1 60 1)] s26 (fun s29 => Φ s29)) (k := 2) (f := b) (g := 9) (x := 10) hR hn hm ha (fun σ1 hE hR1 => by
    have hW1 : hWF (rnD D (8 * m + a) 2 b 9 10) := rn_W hW hm ha (by decide) (Or.inr (Or.inl ⟨rfl, hb', hne, rfl, rfl⟩))
    refine y_now hR1 hW1 hm (fun σ2 W v hM2 hR2 h2 => k σ2 W v hR2 ((hk.of (fun j => hE.2 77 (by decide) j)).of (fun j => hM2.1 77 (by decide) j)) ?_ ?_)
    · have := h2.2.2.2; rw [rn_n _ _ _ _ _ _ (Or.inl rfl)] at this; exact this
    · have := uv_c hW1 hm h2
      rw [cn_give hn hW.2.1] at this; exact this)
  rw [nmM_lt (by omega)] at this
  exact this
theorem y_self1 {Φ : hv_S → Prop} {m a : Nat} (hR : RM D hb It σ) (hW : hWF D) (hm : m < 3) (ha : a < D 0 0) (hk : kI D (8 * m + a) σ)
    (k : ∀ σ' W v, RM (rnD D (8 * m + a) 1 9 9 0) hb It σ' → kI D (8 * m + a) σ' → vmI σ' (D 0 0) W v → prp W v (cnV D hb m (D 0 1) (2 ^ a) none).1 (cnV D hb m (D 0 1) (2 ^ a) none).2 → Φ σ') :
    hv_CV l (hv_e2 e) 0 m_X10_put [.ref 60, .int ((8 * nI m) + nI a), .int 1, .int (-1), .int (-1), .int 0] σ (fun s26 => hv_CV l (hv_e2 e) 12 m_X10_findVoices [.ref 60, .int (nI m), .int (s26.1 60 1)] s26 (fun s29 => Φ s29)) := by
  have hn := hW.1
  rw [cellM]
  exact y_put (l := l) (e := e) (Φ := fun s26 => hv_CV l (hv_e2 e) 12 m_X10_findVoices [.ref 60, .int (nI m), .int (s26.1 60 1)] s26 (fun s29 => Φ s29)) (k := 1) (f := 9) (g := 9) (x := 0) hR hn hm ha (fun σ1 hE hR1 => by
    have hW1 : hWF (rnD D (8 * m + a) 1 9 9 0) := rn_W hW hm ha (by decide) (Or.inl ⟨Or.inl (by decide), rfl, rfl⟩)
    refine y_now hR1 hW1 hm (fun σ2 W v hM2 hR2 h2 => k σ2 W v hR2 ((hk.of (fun j => hE.2 77 (by decide) j)).of (fun j => hM2.1 77 (by decide) j)) ?_ ?_)
    · have := h2.2.2.2; rw [rn_n _ _ _ _ _ _ (Or.inl rfl)] at this; exact this
    · have := uv_c hW1 hm h2
      rw [cn_self hn hW.2.1] at this; exact this)
theorem rn_eo (D : hD) (c k f g x : Nat) : ∀ i c', c' ≠ c → rnD D c k f g x i c' = D i c' := fun i _ h => rn_o D _ _ _ _ _ h i
theorem y_breach {Φ : Int32 → hv_S → Prop} (hR : RM D hb It σ) (hW : hWF D) (x : Int32) (k : ∀ σ', RM D hb It σ' → Φ (anM (fun m => oR (brch D hb m)) x) σ') : hv_CI l (hv_e2 e) 13 m_X10_breach [.ref 60, .int x] σ Φ := by
  have hn := hW.1
  have p8 : 2 ^ D 0 0 ≤ 2 ^ 8 := Nat.pow_le_pow_right (by decide) hn
  refine B_X10_breach _ (y_isMatter x (fun h => ⟨fun q => absurd rfl q, fun _ => ?_⟩) (fun m hm hx => ⟨fun _ => ?_, fun q => absurd q (by decide)⟩))
  · rw [anM_out h] at k; exact k σ hR
  · subst hx
    rw [anM_in hm] at k
    refine y_now hR hW hm (fun σ1 W v _ hR1 h1 => ?_)
    obtain ⟨S, eS⟩ : ∃ S, S = msk (alo D hb m) (D 0 0) := ⟨_, rfl⟩
    have hS : S < 2 ^ D 0 0 := by rw [eS]; exact msk_lt _ _
    have hSb : ∀ a, a < D 0 0 → S.testBit a = alo D hb m a := fun a ha => by rw [eS, msk_bit]; simp [ha]
    -- the loops behind it
    have loop : ∀ d a σ', a + d = D 0 0 → RM D hb It σ' → (∀ σ', RM D hb It σ' → Φ (oR (brI D hb m d a)) σ') → L_X10_breach_65 l e Φ (nI m) (nI S) (nI a) σ' := by
      intro d
      induction d with
      | zero =>
        intro a σ' ha hR' k
        exact B_X10_breach_65 _ _ _ ⟨fun _ => k σ' hR', fun q => absurd (by rw [hR'.1.1, show a = D 0 0 by omega]; exact nI_le (Nat.le_refl _) (by omega)) q⟩
      | succ d ih =>
        intro a σ' ha hR' k
        have ha' : a < D 0 0 := by omega
        have eI : brI D hb m (d + 1) a = (brJ D hb m a (D 0 0) 0).or (brI D hb m d (a + 1)) := rfl
        refine B_X10_breach_65 _ _ _ ⟨fun q => absurd q (by rw [hR'.1.1]; exact nI_ge (by omega) (by omega)), fun _ => ?_⟩
        rw [eI] at k
        suffices ∀ g b σ', b + g = D 0 0 → RM D hb It σ' → (∀ σ', RM D hb It σ' → Φ (oR ((brJ D hb m a g b).or (brI D hb m d (a + 1)))) σ') → L_X10_breach_76 l e Φ (nI m) (nI S) (nI a) (nI b) σ' by exact this (D 0 0) 0 σ' (by omega) hR' k
        intro g
        induction g with
        | zero =>
          intro b σ' hb2 hR' k
          refine B_X10_breach_76 _ _ _ _ ⟨fun _ => ?_, fun q => absurd (by rw [hR'.1.1, show b = D 0 0 by omega]; exact nI_le (Nat.le_refl _) (by omega)) q⟩
          rw [nI_1]
          exact ih (a + 1) σ' (by omega) hR' k
        | succ g ihg =>
          intro b σ' hb2 hR' k
          have hb3 : b < D 0 0 := by omega
          have eJ : brJ D hb m a (g + 1) b = if alo D hb m a = true ∧ alo D hb m b = true ∧ b ≠ a ∧ bar D hb m a b = false ∧ brL D hb m a b = true then some (10 * a + b) else brJ D hb m a g (b + 1) := rfl
          have skip : ¬ (alo D hb m a = true ∧ alo D hb m b = true ∧ b ≠ a ∧ bar D hb m a b = false ∧ brL D hb m a b = true) → ∀ σ', RM D hb It σ' → L_X10_breach_76 l e Φ (nI m) (nI S) (nI a) (nI b + 1) σ' := fun q σ' hR' => by
            rw [eJ, if_neg q] at k
            rw [nI_1]
            exact ihg (b + 1) σ' (by omega) hR' k
          refine B_X10_breach_76 _ _ _ _ ⟨fun q => absurd q (by rw [hR'.1.1]; exact nI_ge (by omega) (by omega)), fun _ => ?_⟩
          rw [nI_eq (by omega) (by omega)]
          refine ⟨fun q => skip (fun c => c.2.2.1 q.symm) σ' hR', fun q1 => y_has (by omega) (by omega) ?_⟩
          rw [hSb a ha', bI_0]
          refine ⟨fun q => skip (fun c => by rw [c.1] at q; exact absurd q (by decide)) σ' hR', fun q2 => y_has (by omega) (by omega) ?_⟩
          rw [hSb b hb3, bI_0]
          refine ⟨fun q => skip (fun c => by rw [c.2.1] at q; exact absurd q (by decide)) σ' hR', fun q3 => y_isBar hR' hW hm ha' hb3 (fun σ2 hE2 hR2 => ?_)⟩
          rw [bI_0]
          refine ⟨fun q4 => ?_, fun q => skip (fun c => q c.2.2.2.1) σ2 hR2⟩
          refine y_now hR2 hW hm (fun σ3 W3 v3 _ hR3 h3 => ⟨vp_in_nI (by omega) (by decide), y_keep hR3 hW hm ha' (fun σ4 e4 _ hR4 hk4 => ?_)⟩)
          refine y_give1 hR4 hW hm ha' hb3 (fun z => q1 z.symm) hk4 (fun σ5 W5 v5 hR5 hk5 hv5 hp5 => ?_)
          refine y_putBack hR5 hW hm ha' (fun i hi j => rn_n D _ _ _ _ _ hi j) (rn_eo D _ _ _ _ _) hk5 (fun σ6 hE6 hR6 => ⟨vp_in_nI (by omega) (by decide), ?_⟩)
          have hv6 := hv5.he hE6.1
          have hv3 := h3.2.2.2
          have b5 := hv6.2.2.2.2 b
          have b3 := hv3.2.2.2.2 b
          rw [nI_clamp (by omega), hv6.2.1 b hb3, hv6.1, hv3.2.1 b hb3, hv3.1]
          refine y_isLess ⟨b5.1, by have := hv6.2.2.2.1; omega⟩ ⟨hv6.2.2.1, hv6.2.2.2.1⟩ ⟨b3.1, by have := hv3.2.2.2.1; omega⟩ ⟨hv3.2.2.1, hv3.2.2.2.1⟩ ?_
          have hx := prp_x (uv_c hW hm h3) hp5 b
          have eL : decide (v5 b * W3 < v3 b * W5) = brL D hb m a b := by unfold brL; exact decide_eq_decide.mpr hx
          rw [eL, bI_0]
          refine ⟨fun q => skip (fun c => by rw [c.2.2.2.2] at q; exact absurd q (by decide)) σ6 hR6, fun q => ?_⟩
          have k := k σ6 hR6
          rw [eJ, if_pos ⟨by simpa using q2, by simpa using q3, fun z => q1 z.symm, q4, by simpa using q⟩] at k
          have e10 : (10 : Int32) * nI a + nI b = nI (10 * a + b) := by rw [show (10 : Int32) = nI 10 from rfl, pk_mul, nI_add]
          rw [e10]; exact k
    suffices ∀ d i, i + d = D 0 0 → L_X10_breach_23 l e Φ (nI m) (nI (msk (alo D hb m) i)) (nI i) σ1 by exact this (D 0 0) 0 (by omega)
    intro d
    induction d with
    | zero =>
      intro i hi
      refine B_X10_breach_23 _ _ _ ⟨fun _ => ?_, fun q => absurd (by rw [hR1.1.1, show i = D 0 0 by omega]; exact nI_le (Nat.le_refl _) (by omega)) q⟩
      rw [show msk (alo D hb m) i = S by rw [eS, show i = D 0 0 by omega]]
      exact loop (D 0 0) 0 σ1 (by omega) hR1 k
    | succ d ih =>
      intro i hi
      have hG := rowT_le (GX_row (hb := hb) (w := D 0 1) (S := 0) hW hm gtW0 i (show i < D 0 0 by omega)) (show i < D 0 0 by omega)
      refine B_X10_breach_23 _ _ _ ⟨fun q => absurd q (by rw [hR1.1.1]; exact nI_ge (by omega) (by omega)), fun _ => ?_⟩
      rw [cellM, nI_clamp (by omega), h1.1 i i (by omega) (by omega), one_shl (by omega), tI_or, nI_1, show (0 : Int32) = nI 0 from rfl, tI_or, Nat.or_zero, ne_eq, show nI (GX D hb m (D 0 1) 0 none i i) = 10 ↔ GX D hb m (D 0 1) 0 none i i = 10 from nI_eq (b := 10) (by omega) (by decide)]
      refine ⟨vp_in_nI (by omega) (by decide), fun q => ?_, fun q => ?_⟩
      · rw [← msk_step (p := alo D hb m) (i := i) (by unfold alo; simpa using q)]
        exact ih (i + 1) (by omega)
      · rw [msk_stepT (p := alo D hb m) (i := i) (by unfold alo; simpa using q)]
        exact ih (i + 1) (by omega)
end TY
