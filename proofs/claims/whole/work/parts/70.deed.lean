-- DEEDS: what changes
theorem aU_s (D : hD) (a b v : Nat) : aU D a b v a b = v := if_pos ⟨rfl, rfl⟩
theorem aU_r (D : hD) (a b v : Nat) {b' : Nat} (h : b' ≠ b) : aU D a b v a b' = D a b' := if_neg (fun q => h q.2)
theorem aU_n (D : hD) (a b v : Nat) {a' : Nat} (h : a' ≠ a) (b' : Nat) : aU D a b v a' b' = D a' b' := if_neg (fun q => h q.1)
theorem aU_o (D : hD) (a b v : Nat) {b' : Nat} (h : b' ≠ b) (a' : Nat) : aU D a b v a' b' = D a' b' := if_neg (fun q => h q.2)
/-- a new hand -/
def rnD (D : hD) (c k a b x : Nat) : hD := aU (aU (aU (aU (aU D 1 c k) 2 c 100) 3 c a) 4 c b) 5 c x
theorem rn_o (D : hD) (c k a b x : Nat) {c' : Nat} (h : c' ≠ c) (i : Nat) : rnD D c k a b x i c' = D i c' := by
  unfold rnD
  rw [aU_o _ _ _ _ h, aU_o _ _ _ _ h, aU_o _ _ _ _ h, aU_o _ _ _ _ h, aU_o _ _ _ _ h]
theorem rn_1 (D : hD) (c k a b x : Nat) : rnD D c k a b x 1 c = k := by unfold rnD; rw [aU_n _ _ _ _ (by decide), aU_n _ _ _ _ (by decide), aU_n _ _ _ _ (by decide), aU_n _ _ _ _ (by decide), aU_s]
theorem rn_2 (D : hD) (c k a b x : Nat) : rnD D c k a b x 2 c = 100 := by unfold rnD; rw [aU_n _ _ _ _ (by decide), aU_n _ _ _ _ (by decide), aU_n _ _ _ _ (by decide), aU_s]
theorem rn_3 (D : hD) (c k a b x : Nat) : rnD D c k a b x 3 c = a := by unfold rnD; rw [aU_n _ _ _ _ (by decide), aU_n _ _ _ _ (by decide), aU_s]
theorem rn_4 (D : hD) (c k a b x : Nat) : rnD D c k a b x 4 c = b := by unfold rnD; rw [aU_n _ _ _ _ (by decide), aU_s]
theorem rn_5 (D : hD) (c k a b x : Nat) : rnD D c k a b x 5 c = x := by unfold rnD; rw [aU_s]
theorem rn_n (D : hD) (c k a b x : Nat) {i : Nat} (h : i = 0 ∨ 6 ≤ i) (j : Nat) : rnD D c k a b x i j = D i j := by
  unfold rnD
  rw [aU_n _ _ _ _ (by omega), aU_n _ _ _ _ (by omega), aU_n _ _ _ _ (by omega), aU_n _ _ _ _ (by omega), aU_n _ _ _ _ (by omega)]
theorem hWF_h {D D' : hD} (hW : hWF D) (e : ∀ i, (i = 0 ∨ 8 ≤ i) → ∀ j, D' i j = D i j) (hh : ∀ c, c < 24 → hnd D' c) (h0 : ∀ c, c < 24 → D 0 0 ≤ c % 8 → hnd0 D' c) : hWF D' := by
  obtain ⟨g0, g1, g2, g3, g4, g5, g6, g7, g8, g9, g10, g11, g12, g13⟩ := hW
  have e0 := e 0 (Or.inl rfl)
  refine ⟨by rw [e0]; exact g0, by rw [e0]; exact g1, by rw [e0]; exact g2, by rw [e0]; exact g3, by rw [e0]; exact g4, by rw [e0]; exact g5, by rw [e0]; exact g6, by rw [e0]; exact g7, by rw [e0]; exact g8, hh, fun c hc hq => h0 c hc (by rw [← e0]; exact hq), fun k hk => by rw [e 8 (Or.inr (by decide))]; exact g11 k (by rw [← e0]; exact hk), by rw [e 9 (Or.inr (by decide))]; exact g12, fun t ht => by rw [e 10 (Or.inr (by decide)), e 11 (Or.inr (by decide))]; exact g13 t ht⟩
theorem hnd_e {D D' : hD} {c : Nat} (e0 : D' 0 0 = D 0 0) (e : ∀ i, 1 ≤ i → i ≤ 7 → D' i c = D i c) (h : hnd D c) : hnd D' c := by
  unfold hnd at *
  rw [e0, e 1 (by decide) (by decide), e 2 (by decide) (by decide), e 3 (by decide) (by decide), e 4 (by decide) (by decide), e 5 (by decide) (by decide), e 6 (by decide) (by decide), e 7 (by decide) (by decide)]
  exact h
theorem hnd0_e {D D' : hD} {c : Nat} (e : ∀ i, 1 ≤ i → i ≤ 7 → D' i c = D i c) (h : hnd0 D c) : hnd0 D' c := by
  unfold hnd0 at *
  rw [e 1 (by decide) (by decide), e 2 (by decide) (by decide), e 3 (by decide) (by decide), e 4 (by decide) (by decide), e 5 (by decide) (by decide), e 6 (by decide) (by decide), e 7 (by decide) (by decide)]
  exact h
/-- one hand changed, of a member -/
theorem hWF_c {D D' : hD} (hW : hWF D) {m a : Nat} (ha : a < D 0 0) (e : ∀ i, (i = 0 ∨ 8 ≤ i) → ∀ j, D' i j = D i j) (eo : ∀ c', c' ≠ 8 * m + a → ∀ i, D' i c' = D i c') (hc : hnd D' (8 * m + a)) : hWF D' := by
  have hn := hW.1
  refine hWF_h hW e (fun c h24 => ?_) (fun c h24 hq => ?_)
  · by_cases q : c = 8 * m + a
    · subst q; exact hc
    · exact hnd_e (e 0 (Or.inl rfl) 0) (fun i _ _ => eo c q i) (hW.2.2.2.2.2.2.2.2.2.1 c h24)
  · have q : c ≠ 8 * m + a := fun q => by subst q; omega
    exact hnd0_e (fun i _ _ => eo c q i) (hW.2.2.2.2.2.2.2.2.2.2.1 c h24 hq)
theorem rn_W {D : hD} (hW : hWF D) {m a k f g x : Nat} (hm : m < 3) (ha : a < D 0 0) (hx : x ≤ 10)
    (h : (k ≤ 1 ∨ k = 5) ∧ f = 9 ∧ g = 9 ∨ k = 2 ∧ f < D 0 0 ∧ f ≠ a ∧ g = 9 ∧ x = 10 ∨ (k = 3 ∧ x = 10 ∨ k = 4 ∧ 1 ≤ x ∧ x ≤ 9) ∧ f < D 0 0 ∧ g < D 0 0 ∧ f ≠ a ∧ g ≠ a ∧ f ≠ g) : hWF (rnD D (8 * m + a) k f g x) := by
  have hn := hW.1
  refine hWF_c hW ha (fun i hi j => rn_n D _ k f g x (by omega) j) (fun c' hc' i => rn_o D _ k f g x hc' i) ?_
  have h1 := hW.2.2.2.2.2.2.2.2.2.1 (8 * m + a) (by omega)
  unfold hnd at *
  rw [rn_1, rn_2, rn_3, rn_4, rn_5, rn_n _ _ _ _ _ _ (Or.inr (by decide)), rn_n _ _ _ _ _ _ (Or.inr (by decide)), rn_n _ _ _ _ _ _ (Or.inl rfl), show (8 * m + a) % 8 = a by omega]
  refine ⟨by omega, by omega, hx, h1.2.2.2.1, h1.2.2.2.2.1, h⟩
section DE
variable {l : Launch} {e : hv_Ev} {σ : hv_S} {D : hD} {hb : hB} {It : hT}
theorem x_renew {Φ : Int32 → hv_S → Prop} {c k f g x : Nat} (hR : RX D hb It σ) (hc : c < 24) (kk : ∀ σ', RX (rnD D c k f g x) hb It σ' → Φ (nI (D 1 c)) σ') :
    hv_CI l (hv_e1 e) 0 m_X2_renew [.ref 1, .int (nI c), .int (nI k), .int (nmX f), .int (nmX g), .int (nI x)] σ Φ := by
  have hv : vp_in (nI c) 24 := vp_in_nI hc (by decide)
  refine B_X2_renew _ _ _ _ _ ⟨hv, hv, hv, hv, hv, hv, ?_⟩
  rw [nI_clamp (by omega), (hR.1.2.2.2 c hc).2.1]
  obtain ⟨σ', hσ⟩ : ∃ σ', σ' = hv_ui (hv_ui (hv_ui (hv_ui (hv_ui σ 4 c (nI k)) 5 c 100) 6 c (nmX f)) 7 c (nmX g)) 8 c (nI x) := ⟨_, rfl⟩
  rw [← hσ]
  have ho : ∀ p j, (p < 4 ∨ 8 < p) → σ'.1 p j = σ.1 p j := fun p j hp => by
    rw [hσ]; simp only [ui_1, show p ≠ 4 by omega, show p ≠ 5 by omega, show p ≠ 6 by omega, show p ≠ 7 by omega, show p ≠ 8 by omega, false_and, if_false]
  have h2 : σ'.2 = σ.2 := by rw [hσ]; rfl
  have eI : ∀ ks : List Nat, (∀ p, p ∈ ks → p < 4 ∨ 8 < p) → eqI ks σ σ' := fun ks hks p hp j => ho p j (hks p hp)
  refine kk σ' ⟨⟨?_, ?_, fun m hm => ?_, fun c' hc' => ?_⟩, ?_, ?_, ?_, ?_⟩
  · rw [ho 1 7 (by omega)]; exact hR.1.1
  · rw [ho 1 8 (by omega)]; exact hR.1.2.1
  · rw [ho 2 m (by omega), hR.1.2.2.1 m hm]; rfl
  · obtain ⟨g3, g4, g5, g6, g7, g8⟩ := hR.1.2.2.2 c' hc'
    by_cases q : c' = c
    · subst q
      rw [rn_1, rn_2, rn_3, rn_4, rn_5, rn_n _ _ _ _ _ _ (Or.inr (by decide)), ho 3 c' (by omega), g3]
      refine ⟨rfl, ?_, ?_, ?_, ?_, ?_⟩ <;> rw [hσ] <;> simp [ui_1] <;> rfl
    · rw [rn_o _ _ _ _ _ _ q, rn_o _ _ _ _ _ _ q, rn_o _ _ _ _ _ _ q, rn_o _ _ _ _ _ _ q, rn_o _ _ _ _ _ _ q, rn_o _ _ _ _ _ _ q, ho 3 c' (by omega), g3]
      refine ⟨rfl, ?_, ?_, ?_, ?_, ?_⟩ <;> rw [hσ] <;> simp only [ui_1, q, and_false, if_false] <;> assumption
  · exact rxT_of (D := rnD D c k f g x) hR.2.1 (eI _ (by decide))
  · exact rxL_of (D := rnD D c k f g x) hR.2.2.1 (eI _ (by decide)) (by rw [h2])
  · exact rxA_of (D := rnD D c k f g x) hR.2.2.2.1 (eI _ (by decide))
  · exact rxP_of (D := rnD D c k f g x) hR.2.2.2.2 (eI _ (by decide)) (fun j => by rw [h2])
theorem cellI (a m : Nat) : nI m * 8 + nI a = nI (8 * m + a) := by simp only [lI, pk_mul, nI_add]; rw [Nat.mul_comm]
-- member
def mbR (D : hD) : Int32 × hD := if D 0 0 < 8 then (nI (D 0 0), aU D 0 0 (D 0 0 + 1)) else (-4, D)
theorem mbR_W (hW : hWF D) : hWF (mbR D).2 := by
  have hn := hW.1
  unfold mbR
  split
  · next h =>
    obtain ⟨g0, g1, g2, g3, g4, g5, g6, g7, g8, g9, g10, g11, g12, g13⟩ := hW
    have e0 : (aU D 0 0 (D 0 0 + 1)) 0 0 = D 0 0 + 1 := rfl
    show hWF (aU D 0 0 (D 0 0 + 1))
    refine ⟨by show D 0 0 + 1 ≤ 8; omega, g1, g2, g3, g4, g5, g6, g7, g8, fun c hc => ?_, fun c hc hq => ?_, g11, g12, g13⟩
    · have h1 := g9 c hc
      unfold hnd at *
      rw [e0]
      simp only [aU_n D 0 0 _ (show (1 : Nat) ≠ 0 by decide), aU_n D 0 0 _ (show (2 : Nat) ≠ 0 by decide), aU_n D 0 0 _ (show (3 : Nat) ≠ 0 by decide), aU_n D 0 0 _ (show (4 : Nat) ≠ 0 by decide), aU_n D 0 0 _ (show (5 : Nat) ≠ 0 by decide), aU_n D 0 0 _ (show (6 : Nat) ≠ 0 by decide), aU_n D 0 0 _ (show (7 : Nat) ≠ 0 by decide)]
      omega
    · have hq : D 0 0 + 1 ≤ c % 8 := hq
      exact g10 c hc (by omega)
  · exact hW
theorem x_member {Φ : Int32 → hv_S → Prop} (hR : RX D hb It σ) (hW : hWF D) (k : ∀ σ', RX (mbR D).2 hb It σ' → Φ (mbR D).1 σ') : hv_CI l (hv_e1 e) 0 m_X9_member [.ref 0] σ Φ := by
  have hn := hW.1
  unfold mbR at k
  refine B_X9_member ?_
  rw [hR.1.1, nI_1]
  refine ⟨fun q => ?_, fun q => ?_⟩
  · have q1 : D 0 0 < 8 := (nI_ltI (b := 8) (by omega) (by decide)).mp q
    rw [if_pos q1] at k
    have ho : ∀ p j, p ≠ 1 → (hv_ui σ 1 7 (nI (D 0 0 + 1))).1 p j = σ.1 p j := fun p j hp => by rw [ui_1, if_neg (fun z => hp z.1)]
    have eI : ∀ ks : List Nat, (∀ p, p ∈ ks → p ≠ 1) → eqI ks σ (hv_ui σ 1 7 (nI (D 0 0 + 1))) := fun ks hks p hp j => ho p j (hks p hp)
    refine k _ ⟨⟨?_, ?_, hR.1.2.2.1, fun c hc => ?_⟩, ?_, ?_, ?_, ?_⟩
    · rw [ui_1, if_pos ⟨rfl, rfl⟩]; rfl
    · rw [ui_1, if_neg (by decide)]; exact hR.1.2.1
    · exact hR.1.2.2.2 c hc
    · exact rxT_of (D := aU D 0 0 (D 0 0 + 1)) hR.2.1 (eI _ (by decide))
    · exact rxL_of (D := aU D 0 0 (D 0 0 + 1)) hR.2.2.1 (eI _ (by decide)) rfl
    · exact rxA_of (D := aU D 0 0 (D 0 0 + 1)) hR.2.2.2.1 (eI _ (by decide))
    · exact rxP_of (D := aU D 0 0 (D 0 0 + 1)) hR.2.2.2.2 (eI _ (by decide)) (fun j => rfl)
  · have q1 : ¬ D 0 0 < 8 := fun c => q (nI_lt (b := 8) c (by decide))
    rw [if_neg q1] at k
    exact k σ hR
-- hand, give, names
def hdR (D : hD) (x y z : Int32) : Int32 × hD := an1 (D 0 0) x (fun a => an1 3 y (fun m => if z = 0 ∨ z = 1 ∨ z = 5 then (nI (D 1 (8 * m + a)), rnD D (8 * m + a) z.toInt.toNat 9 9 0) else (-2, D)) (-1, D)) (-1, D)
def gvR (D : hD) (x y z : Int32) : Int32 × hD := an1 (D 0 0) x (fun a => an1 3 y (fun m => an1 (D 0 0) z (fun b => if a = b then (-2, D) else (nI (D 1 (8 * m + a)), rnD D (8 * m + a) 2 b 9 10)) (-1, D)) (-1, D)) (-1, D)
def nmR (D : hD) (x y z w v : Int32) : Int32 × hD := an1 (D 0 0) x (fun a => an1 3 y (fun m => an1 (D 0 0) z (fun b => an1 (D 0 0) w (fun c => if a = b ∨ a = c ∨ b = c ∨ v < 0 ∨ 10 ≤ v then (-2, D) else if v = 0 then (nI (D 1 (8 * m + a)), rnD D (8 * m + a) 3 b c 10) else (nI (D 1 (8 * m + a)), rnD D (8 * m + a) 4 b c v.toInt.toNat)) (-1, D)) (-1, D)) (-1, D)) (-1, D)
theorem an1_W {n : Nat} {x : Int32} {f : Nat → Int32 × hD} {o : Int32 × hD} (hn : n < 2 ^ 31) (h : ∀ a, a < n → hWF (f a).2) (h0 : hWF o.2) : hWF (an1 n x f o).2 := by
  by_cases c : ∃ a, a < n ∧ x = nI a
  · obtain ⟨a, ha, hx⟩ := c
    rw [hx, an1_in hn ha]; exact h a ha
  · rw [an1_out hn (fun m hm hx => c ⟨m, hm, hx⟩)]; exact h0
theorem hdR_W (hW : hWF D) (x y z : Int32) : hWF (hdR D x y z).2 := by
  have hn := hW.1
  refine an1_W (by omega) (fun a ha => an1_W (by decide) (fun m hm => ?_) hW) hW
  split
  · next h =>
    refine rn_W hW hm ha (by decide) (Or.inl ⟨?_, rfl, rfl⟩)
    rcases h with rfl | rfl | rfl
    · exact Or.inl (by decide)
    · exact Or.inl (by decide)
    · exact Or.inr (by decide)
  · exact hW
theorem gvR_W (hW : hWF D) (x y z : Int32) : hWF (gvR D x y z).2 := by
  have hn := hW.1
  refine an1_W (by omega) (fun a ha => an1_W (by decide) (fun m hm => an1_W (by omega) (fun b hb' => ?_) hW) hW) hW
  split
  · exact hW
  · next h => exact rn_W hW hm ha (by decide) (Or.inr (Or.inl ⟨rfl, hb', fun c => h c.symm, rfl, rfl⟩))
theorem nmR_W (hW : hWF D) (x y z w v : Int32) : hWF (nmR D x y z w v).2 := by
  have hn := hW.1
  refine an1_W (by omega) (fun a ha => an1_W (by decide) (fun m hm => an1_W (by omega) (fun b hb' => an1_W (by omega) (fun c hc => ?_) hW) hW) hW) hW
  split
  · exact hW
  · next h =>
    split
    · exact rn_W hW hm ha (by decide) (Or.inr (Or.inr ⟨Or.inl ⟨rfl, rfl⟩, hb', hc, by omega, by omega, by omega⟩))
    · next h2 =>
      rcases i32_cases v with c2 | ⟨k, hk, rfl⟩
      · exact absurd (Or.inr (Or.inr (Or.inr (Or.inl c2)))) h
      · have h3 : ¬ 10 ≤ k := fun q => h (Or.inr (Or.inr (Or.inr (Or.inr ((nI_leI (a := 10) (by decide) hk).mpr q)))))
        have h4 : k ≠ 0 := fun q => h2 (by rw [q]; rfl)
        rw [nI_toInt hk, Int.toNat_natCast]
        exact rn_W hW hm ha (by omega) (Or.inr (Or.inr ⟨Or.inr ⟨rfl, by omega, by omega⟩, hb', hc, by omega, by omega, by omega⟩))
theorem x_hand {Φ : Int32 → hv_S → Prop} (hR : RX D hb It σ) (hW : hWF D) (x y z : Int32) (k : ∀ σ', RX (hdR D x y z).2 hb It σ' → Φ (hdR D x y z).1 σ') : hv_CI l (hv_e1 e) 1 m_X9_hand [.ref 0, .int x, .int y, .int z] σ Φ := by
  have hn := hW.1
  unfold hdR at k
  refine B_X9_hand _ _ _ (x_sits hR hW x (fun h => ⟨fun _ => ?_, fun q => absurd rfl q⟩) (fun a ha hx => ⟨fun q => absurd q (by decide), fun _ => x_isMatter y (fun h => ⟨fun q => absurd rfl q, fun _ => ?_⟩) (fun m hm hy => ⟨fun _ => ?_, fun q => absurd q (by decide)⟩)⟩))
  · rw [an1_out (by omega) h] at k; exact k σ hR
  · rw [hx, an1_in (by omega) ha, an1_out (by omega) h] at k; exact k σ hR
  · rw [hx, an1_in (by omega) ha, hy, an1_in (by omega) hm] at k
    subst hx
    subst hy
    have key : ∀ kk : Nat, z = nI kk → kk < 6 → (z = 0 ∨ z = 1 ∨ z = 5) → L_X9_hand_37 l e Φ (nI a) (nI m) z σ := fun kk hz hk hor => by
      rw [if_pos hor] at k
      refine B_X9_hand_37 _ _ _ (B_X9_cell _ _ ?_)
      rw [cellI]
      rw [hz] at k ⊢
      rw [nI_toInt (by omega), Int.toNat_natCast] at k
      exact x_renew (f := 9) (g := 9) (x := 0) hR (by omega) k
    refine ⟨fun q => key 0 q (by decide) (Or.inl q), fun q => ⟨fun q1 => key 1 q1 (by decide) (Or.inr (Or.inl q1)), fun q1 => ⟨fun q2 => key 5 q2 (by decide) (Or.inr (Or.inr q2)), fun q2 => ?_⟩⟩⟩
    rw [if_neg (fun c => by rcases c with c | c | c; exact q c; exact q1 c; exact q2 c)] at k
    exact k σ hR
theorem x_give {Φ : Int32 → hv_S → Prop} (hR : RX D hb It σ) (hW : hWF D) (x y z : Int32) (k : ∀ σ', RX (gvR D x y z).2 hb It σ' → Φ (gvR D x y z).1 σ') : hv_CI l (hv_e1 e) 1 m_X9_give [.ref 0, .int x, .int y, .int z] σ Φ := by
  have hn := hW.1
  unfold gvR at k
  refine B_X9_give _ _ _ (x_sits hR hW x (fun h => ⟨fun _ => ?_, fun q => absurd rfl q⟩) (fun a ha hx => ⟨fun q => absurd q (by decide), fun _ => x_isMatter y (fun h => ⟨fun _ => ?_, fun q => absurd rfl q⟩) (fun m hm hy => ⟨fun q => absurd q (by decide), fun _ => x_sits hR hW z (fun h => ⟨fun q => absurd rfl q, fun _ => ?_⟩) (fun b hb' hz => ⟨fun _ => ⟨fun q => ?_, fun q => ?_⟩, fun q => absurd q (by decide)⟩)⟩)⟩))
  · rw [an1_out (by omega) h] at k; exact k σ hR
  · rw [hx, an1_in (by omega) ha, an1_out (by omega) h] at k; exact k σ hR
  · rw [hx, an1_in (by omega) ha, hy, an1_in (by omega) hm, an1_out (by omega) h] at k; exact k σ hR
  · rw [hx, an1_in (by omega) ha, hy, an1_in (by omega) hm, hz, an1_in (by omega) hb', if_neg (fun c => q (by rw [hx, hz, c]))] at k
    subst hx
    subst hy
    subst hz
    refine B_X9_cell _ _ ?_
    rw [cellI]
    have := x_renew (l := l) (e := e) (Φ := Φ) (k := 2) (f := b) (g := 9) (x := 10) hR (show 8 * m + a < 24 by omega) k
    rw [nmX_lt (by omega)] at this
    exact this
  · rw [hx, an1_in (by omega) ha, hy, an1_in (by omega) hm, hz, an1_in (by omega) hb', if_pos ((nI_eq (by omega) (by omega)).mp (by rw [← hx, ← hz]; exact q))] at k
    exact k σ hR
theorem x_namesF {Φ : Int32 → hv_S → Prop} (hR : RX D hb It σ) (hW : hWF D) (x y z w v : Int32) (k : ∀ σ', RX (nmR D x y z w v).2 hb It σ' → Φ (nmR D x y z w v).1 σ') : hv_CI l (hv_e1 e) 1 m_X9_names [.ref 0, .int x, .int y, .int z, .int w, .int v] σ Φ := by
  have hn := hW.1
  unfold nmR at k
  refine B_X9_names _ _ _ _ _ (x_sits hR hW x (fun h => ⟨fun _ => ?_, fun q => absurd rfl q⟩) (fun a ha hx => ⟨fun q => absurd q (by decide), fun _ => x_isMatter y (fun h => ⟨fun _ => ?_, fun q => absurd rfl q⟩) (fun m hm hy => ⟨fun q => absurd q (by decide), fun _ => x_sits hR hW z (fun h => ⟨fun _ => ?_, fun q => absurd rfl q⟩) (fun b hb' hz => ⟨fun q => absurd q (by decide), fun _ => x_sits hR hW w (fun h => ⟨fun q => absurd rfl q, fun _ => ?_⟩) (fun c hc hw => ⟨fun _ => ?_, fun q => absurd q (by decide)⟩)⟩)⟩)⟩))
  · rw [an1_out (by omega) h] at k; exact k σ hR
  · rw [hx, an1_in (by omega) ha, an1_out (by omega) h] at k; exact k σ hR
  · rw [hx, an1_in (by omega) ha, hy, an1_in (by omega) hm, an1_out (by omega) h] at k; exact k σ hR
  · rw [hx, an1_in (by omega) ha, hy, an1_in (by omega) hm, hz, an1_in (by omega) hb', an1_out (by omega) h] at k; exact k σ hR
  · rw [hx, an1_in (by omega) ha, hy, an1_in (by omega) hm, hz, an1_in (by omega) hb', hw, an1_in (by omega) hc] at k
    subst hx
    subst hy
    subst hz
    subst hw
    rw [nI_eq (by omega) (by omega), nI_eq (by omega) (by omega), nI_eq (by omega) (by omega)]
    refine ⟨fun q => ?_, fun q1 => ⟨fun q => ?_, fun q2 => ⟨fun q => ?_, fun q3 => ⟨fun q => ?_, fun q4 => ⟨fun q => ?_, fun q => ?_⟩⟩⟩⟩⟩
    · rw [if_pos (Or.inl q)] at k; exact k σ hR
    · rw [if_pos (Or.inr (Or.inl q))] at k; exact k σ hR
    · rw [if_pos (Or.inr (Or.inr (Or.inl q)))] at k; exact k σ hR
    · rw [if_pos (Or.inr (Or.inr (Or.inr (Or.inl q))))] at k; exact k σ hR
    · have q5 : ¬ 10 ≤ v := Int32.not_le.mpr q
      rw [if_neg (fun c => by rcases c with c | c | c | c | c; exact q1 c; exact q2 c; exact q3 c; exact q4 c; exact q5 c)] at k
      refine B_X9_cell _ _ ?_
      rw [cellI]
      refine ⟨fun q6 => ?_, fun q6 => ?_⟩
      · rw [if_neg q6] at k
        rcases i32_cases v with c2 | ⟨kk, hk, rfl⟩
        · exact absurd c2 q4
        · rw [nI_toInt hk, Int.toNat_natCast] at k
          have := x_renew (l := l) (e := e) (Φ := Φ) (k := 4) (f := b) (g := c) (x := kk) hR (show 8 * m + a < 24 by omega) k
          rw [nmX_lt (by omega), nmX_lt (by omega)] at this
          exact this
      · rw [if_pos q6] at k
        have := x_renew (l := l) (e := e) (Φ := Φ) (k := 3) (f := b) (g := c) (x := 10) hR (show 8 * m + a < 24 by omega) k
        rw [nmX_lt (by omega), nmX_lt (by omega)] at this
        exact this
    · rw [if_pos (Or.inr (Or.inr (Or.inr (Or.inr (Int32.not_lt.mp q)))))] at k; exact k σ hR
end DE
