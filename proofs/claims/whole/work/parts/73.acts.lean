-- ACTS: the bodies that run, and what they answer
def gvB (k : Nat) : List Nat := (if k = 4 then [51] else []) ++ (if 2 ≤ k then [30] else []) ++ [10]
def gvV (k i m : Nat) (x : Int32) : Int32 := if k = 4 then (if 2 ≤ k then x * 2 else x) + nI i ^^^ nI m else (if 2 ≤ k then x * 2 else x) + nI i
def hdB (k : Nat) : List Nat := (if k = 3 then [40] else []) ++ (if 2 ≤ k then [31] else []) ++ [11] ++ gvB k ++ (if k = 3 then gvB k else [])
def hdV (k i m : Nat) (x : Int32) : Int32 := (if 2 ≤ k then -(gvV k i m x - nI m) else gvV k i m x - nI m) + (if k = 3 then gvV k i m 1 else 0)
def tlB (k : Nat) : List Nat := if k = 5 then [60] ++ hdB k ++ ([12] ++ hdB k) else if k = 4 then [50] ++ ([12] ++ hdB k) else if k = 1 then [20] ++ ([12] ++ hdB k) else [12] ++ hdB k
def tlV (k i m : Nat) (x : Int32) : Int32 := if k = 5 then hdV k i m x - hdV k i m x * 2 else if k = 4 then hdV k i m (x - nI i) * 2 else if k = 1 then hdV k i m x * 2 ^^^ 7 else hdV k i m x * 2
def acD (D : hD) (L : List Nat) : hD := fun i j => if i = 9 then (if j = 0 then L.length else L.getD (j - 1) 0) else D i j
theorem ac_n (D : hD) (L : List Nat) {i : Nat} (h : i ≠ 9) (j : Nat) : acD D L i j = D i j := if_neg h
theorem gvB_l (k : Nat) : (gvB k).length ≤ 3 := by unfold gvB; split <;> split <;> decide
theorem hdB_l (k : Nat) : (hdB k).length ≤ 9 := by
  have := gvB_l k
  unfold hdB
  simp only [List.length_append]
  split <;> split <;> simp <;> omega
theorem hdB_l3 (k : Nat) (h : k ≠ 3) : (hdB k).length ≤ 5 := by
  have := gvB_l k
  unfold hdB
  simp only [List.length_append, if_neg h]
  split <;> simp <;> omega
theorem tlB_l (k : Nat) : (tlB k).length ≤ 20 := by
  have := hdB_l k
  have := hdB_l3 k
  unfold tlB
  split
  · simp only [List.length_append]; simp; omega
  · split
    · simp only [List.length_append]; simp; omega
    · split
      · simp only [List.length_append]; simp; omega
      · simp only [List.length_append]; simp; omega
theorem acD_W {D : hD} (hW : hWF D) {L : List Nat} (h : L.length ≤ 100) : hWF (acD D L) := by
  obtain ⟨g0, g1, g2, g3, g4, g5, g6, g7, g8, g9, g10, g11, g12, g13⟩ := hW
  exact ⟨g0, g1, g2, g3, g4, g5, g6, g7, g8, g9, g10, g11, h, g13⟩
noncomputable def acR (D : hD) (x y z w : Int32) : Int32 × hD := an1 (D 0 0) x (fun a => an1 3 y (fun m => if z < 0 ∨ 2 < z then (0, acD D []) else if z = 0 then (gvV (D 1 (8 * m + a)) a m w, acD D (gvB (D 1 (8 * m + a)))) else if z = 1 then (hdV (D 1 (8 * m + a)) a m w, acD D (hdB (D 1 (8 * m + a)))) else (tlV (D 1 (8 * m + a)) a m w, acD D (tlB (D 1 (8 * m + a))))) (0, acD D [])) (0, acD D [])
theorem acR_W {D : hD} (hW : hWF D) (x y z w : Int32) : hWF (acR D x y z w).2 := by
  have hn := hW.1
  refine an1_W (by omega) (fun a ha => an1_W (by decide) (fun m hm => ?_) (acD_W hW (by decide))) (acD_W hW (by decide))
  split
  · exact acD_W hW (by decide)
  · split
    · exact acD_W hW (by have := gvB_l (D 1 (8 * m + a)); omega)
    · split
      · exact acD_W hW (by have := hdB_l (D 1 (8 * m + a)); omega)
      · exact acD_W hW (by have := tlB_l (D 1 (8 * m + a)); omega)
def trA (D : hD) (x : Int32) : Int32 := an1 (min (D 9 0) 20) x (fun k => nI (D 9 (1 + k))) (-1)
/-- under way: kind, seat, topic; what has begun -/
def akI (σ0 σ : hv_S) (k i m : Nat) (L : List Nat) : Prop := σ.1 37 2 = nI k ∧ σ.1 37 3 = nI i ∧ σ.1 37 4 = nI m ∧ (σ.1 37 1 = nI L.length ∧ ∀ j, j < L.length → σ.1 38 j = nI (L.getD j 0)) ∧ σ.2 = σ0.2 ∧ ∀ p, p ≠ 37 → p ≠ 38 → ∀ j, σ.1 p j = σ0.1 p j
section AC
variable {l : Launch} {e : hv_Ev} {σ σ0 : hv_S} {D : hD} {hb : hB} {It : hT} {k i m : Nat} {L : List Nat}
theorem getD_app (L : List Nat) (b j : Nat) : (L ++ [b]).getD j 0 = if j < L.length then L.getD j 0 else if j = L.length then b else 0 := by
  simp only [List.getD_eq_getElem?_getD, List.getElem?_append]
  split
  · rfl
  · next h =>
    split
    · next h2 => subst h2; simp
    · next h2 =>
      rw [List.getElem?_eq_none (by simp; omega)]; rfl
theorem x_begin {Φ : hv_S → Prop} {b : Nat} (hA : akI σ0 σ k i m L) (hL : L.length < 20) (kk : ∀ σ', akI σ0 σ' k i m (L ++ [b]) → Φ σ') : hv_CV l (hv_e1 e) 0 m_X0_begin [.ref 37, .int (nI b)] σ Φ := by
  obtain ⟨a2, a3, a4, ⟨a1, a5⟩, a6, a7⟩ := hA
  refine B_X0_begin _ ?_
  rw [a1, nI_clamp (by omega), nI_1]
  refine ⟨fun q => absurd q (nI_ge (a := L.length) (b := 20) hL (by decide)), fun _ => ⟨vp_in_nI hL (by decide), kk _ ⟨a2, a3, a4, ⟨?_, fun j hj => ?_⟩, a6, fun p h1 h2 j => ?_⟩⟩⟩
  · rw [ui_1, if_pos ⟨rfl, rfl⟩, List.length_append]; rfl
  · rw [List.length_append] at hj
    have hj : j < L.length + 1 := hj
    rw [ui_1, if_neg (fun z => absurd z.1 (by decide)), ui_1, getD_app]
    by_cases c : j = L.length
    · subst c; rw [if_pos ⟨rfl, rfl⟩, if_neg (Nat.lt_irrefl _), if_pos rfl]
    · rw [if_neg (fun z => c z.2), if_pos (by omega)]; exact a5 j (by omega)
  · rw [ui_1, if_neg (fun z => h1 z.1), ui_1, if_neg (fun z => h2 z.1)]; exact a7 p h1 h2 j
theorem nI4 {b : Nat} (hk : k < 6) (hb6 : b < 6) : nI k = nI b ↔ k = b := nI_eq (by omega) (by omega)
theorem x_gives {Φ : Int32 → hv_S → Prop} (x : Int32) (hA : akI σ0 σ k i m L) (hk : k < 6) (hL : L.length ≤ 17) (kk : ∀ σ', akI σ0 σ' k i m (L ++ gvB k) → Φ (gvV k i m x) σ') : hv_CI l (hv_e1 e) 1 m_X0_gives [.ref 37, .int x] σ Φ := by
  have c4 : nI k = 4 ↔ k = 4 := nI4 (b := 4) hk (by decide)
  have c2 : nI k < 2 ↔ k < 2 := nI_ltI (b := 2) (by omega) (by decide)
  -- from the last body on
  have last : ∀ σ1 L1, akI σ0 σ1 k i m L1 → L1.length < 20 → L1 ++ [10] = L ++ gvB k → L_X0_gives_34 l e Φ (if 2 ≤ k then x * 2 else x) σ1 := fun σ1 L1 h1 hl he => by
    refine B_X0_gives_34 _ (x_begin (b := 10) h1 hl (fun σ2 h2 => ?_))
    rw [he] at h2
    rw [h2.1, h2.2.1, h2.2.2.1, ne_eq, c4]
    have := kk σ2 h2
    unfold gvV at this
    refine ⟨fun q => ?_, fun q => ?_⟩
    · rw [if_neg q] at this; exact this
    · rw [if_pos q] at this; exact this
  refine B_X0_gives _ ?_
  rw [hA.1, ne_eq, c4, c2]
  refine ⟨fun q => ⟨fun q2 => ?_, fun q2 => ?_⟩, fun q => ?_⟩
  · have := last σ L hA (by omega) (by unfold gvB; rw [if_neg q, if_neg (by omega)]; rfl)
    rw [if_neg (by omega)] at this; exact this
  · refine x_begin (b := 30) hA (by omega) (fun σ1 h1 => ?_)
    have := last σ1 _ h1 (by rw [List.length_append]; simp; omega) (by unfold gvB; rw [if_neg q, if_pos (by omega), List.append_assoc]; rfl)
    rw [if_pos (by omega)] at this; exact this
  · refine x_begin (b := 51) hA (by omega) (fun σ1 h1 => ?_)
    rw [h1.1, c2]
    refine ⟨fun q2 => absurd q2 (by omega), fun _ => x_begin (b := 30) h1 (by rw [List.length_append]; simp; omega) (fun σ2 h2 => ?_)⟩
    have := last σ2 _ h2 (by rw [List.length_append, List.length_append]; simp; omega) (by unfold gvB; rw [if_pos q, if_pos (by omega), List.append_assoc, List.append_assoc]; rfl)
    rw [if_pos (by omega)] at this; exact this
theorem x_holds {Φ : Int32 → hv_S → Prop} (x : Int32) (hA : akI σ0 σ k i m L) (hk : k < 6) (hL : L.length ≤ 11) (kk : ∀ σ', akI σ0 σ' k i m (L ++ hdB k) → Φ (hdV k i m x) σ') : hv_CI l (hv_e1 e) 2 m_X0_holds [.ref 37, .int x] σ Φ := by
  have c3 : nI k = 3 ↔ k = 3 := nI4 (b := 3) hk (by decide)
  have c2 : nI k < 2 ↔ k < 2 := nI_ltI (b := 2) (by omega) (by decide)
  have hg := gvB_l k
  have last : ∀ σ1 L1, akI σ0 σ1 k i m L1 → L1.length ≤ 13 → L1 ++ [11] ++ gvB k ++ (if k = 3 then gvB k else []) = L ++ hdB k → L_X0_holds_28 l e Φ x σ1 := fun σ1 L1 h1 hl he => by
    refine B_X0_holds_28 _ (x_begin (b := 11) h1 (by omega) (fun σ2 h2 => x_gives x h2 hk (by rw [List.length_append]; simp; omega) (fun σ3 h3 => ?_)))
    rw [h3.1, h3.2.2.1, ne_eq, c3, c2]
    have fin0 : ¬ k = 3 → Φ (hdV k i m x) σ3 := fun q => by
      rw [if_neg q, List.append_nil] at he
      rw [he] at h3
      exact kk σ3 h3
    have fin1 : k = 3 → ∀ h : Int32, h = (if 2 ≤ k then -(gvV k i m x - nI m) else gvV k i m x - nI m) → hv_CI l (hv_e1 e) 1 m_X0_gives [.ref 37, .int 1] σ3 (fun v20 s19 => Φ (h + v20) s19) := fun q h hh => by
      refine x_gives 1 h3 hk (by simp only [List.length_append]; simp; omega) (fun σ4 h4 => ?_)
      rw [if_pos q] at he
      rw [he] at h4
      have := kk σ4 h4
      unfold hdV at this
      rw [if_pos q, ← hh] at this
      exact this
    refine ⟨fun q2 => ⟨fun q => ?_, fun q => fin1 q _ (if_neg (by omega)).symm⟩, fun q2 => ⟨fun q => ?_, fun q => fin1 q _ (if_pos (by omega)).symm⟩⟩
    · have := fin0 q
      unfold hdV at this
      rw [if_neg (by omega), if_neg q, Int32.add_zero] at this
      exact this
    · have := fin0 q
      unfold hdV at this
      rw [if_pos (by omega), if_neg q, Int32.add_zero] at this
      exact this
  refine B_X0_holds _ ?_
  rw [hA.1, ne_eq, c3, c2]
  refine ⟨fun q => ⟨fun q2 => ?_, fun q2 => ?_⟩, fun q => ?_⟩
  · exact last σ L hA (by omega) (by unfold hdB; simp [q, show ¬ 2 ≤ k by omega])
  · exact x_begin (b := 31) hA (by omega) (fun σ1 h1 => last σ1 _ h1 (by rw [List.length_append]; simp; omega) (by unfold hdB; simp [q, show 2 ≤ k by omega]))
  · refine x_begin (b := 40) hA (by omega) (fun σ1 h1 => ?_)
    rw [h1.1, c2]
    refine ⟨fun q2 => absurd q2 (by omega), fun _ => x_begin (b := 31) h1 (by rw [List.length_append]; simp; omega) (fun σ2 h2 => ?_)⟩
    exact last σ2 _ h2 (by rw [List.length_append, List.length_append]; simp; omega) (by unfold hdB; simp [q])
theorem x_tellsH {Φ : Int32 → hv_S → Prop} (x : Int32) (hA : akI σ0 σ k i m L) (hk : k < 6) (hL : L.length ≤ 10) (kk : ∀ σ', akI σ0 σ' k i m (L ++ ([12] ++ hdB k)) → Φ (hdV k i m x * 2) σ') : hv_CI l (hv_e1 e) 3 m_X0_tellsAsHand [.ref 37, .int x] σ Φ := by
  refine B_X0_tellsAsHand _ (x_begin (b := 12) hA (by omega) (fun σ1 h1 => x_holds x h1 hk (by rw [List.length_append]; simp; omega) (fun σ2 h2 => ?_)))
  rw [List.append_assoc] at h2
  exact kk σ2 h2
theorem x_tells {Φ : Int32 → hv_S → Prop} (x : Int32) (hA : akI σ0 σ k i m []) (hk : k < 6) (kk : ∀ σ', akI σ0 σ' k i m (tlB k) → Φ (tlV k i m x) σ') : hv_CI l (hv_e1 e) 4 m_X0_tells [.ref 37, .int x] σ Φ := by
  refine B_X0_tells _ ?_
  rw [hA.1]
  have pl : (¬ k = 5 ∧ ¬ k = 4 ∧ ¬ k = 1) → hv_CI l (hv_e1 e) 3 m_X0_tellsAsHand [.ref 37, .int x] σ (fun v s => Φ v s) := fun q => by
    refine x_tellsH x hA hk (by decide) (fun σ1 h1 => ?_)
    have eB : tlB k = [12] ++ hdB k := by unfold tlB; rw [if_neg q.1, if_neg q.2.1, if_neg q.2.2]
    have eV : tlV k i m x = hdV k i m x * 2 := by unfold tlV; rw [if_neg q.1, if_neg q.2.1, if_neg q.2.2]
    rw [eB, eV] at kk
    exact kk σ1 h1
  have cc : ∀ b, b < 6 → (nI k = nI b ↔ k = b) := fun b hb6 => nI4 hk hb6
  refine ⟨fun q => ?_, fun q => pl ?_, fun q => pl ?_, fun q => ?_, fun q => ?_, fun q1 q2 q3 q4 q5 => pl ⟨fun c => q5 (by rw [c]; rfl), fun c => q4 (by rw [c]; rfl), fun c => q1 (by rw [c]; rfl)⟩⟩
  · have q1 := (cc 1 (by decide)).mp q
    subst q1
    refine x_begin (b := 20) hA (by decide) (fun σ1 h1 => x_tellsH x h1 hk (by decide) (fun σ2 h2 => kk σ2 h2))
  · have q1 := (cc 2 (by decide)).mp q
    omega
  · have q1 := (cc 3 (by decide)).mp q
    omega
  · have q1 := (cc 4 (by decide)).mp q
    subst q1
    refine x_begin (b := 50) hA (by decide) (fun σ1 h1 => ?_)
    rw [h1.2.1]
    exact x_tellsH _ h1 hk (by decide) (fun σ2 h2 => kk σ2 h2)
  · have q1 := (cc 5 (by decide)).mp q
    subst q1
    refine x_begin (b := 60) hA (by decide) (fun σ1 h1 => x_holds x h1 hk (by decide) (fun σ2 h2 => x_tellsH x h2 hk (by decide) (fun σ3 h3 => kk σ3 h3)))
theorem RX.ac {σ' : hv_S} (h : RX D hb It σ) (h2 : σ'.2 = σ.2) (ho : ∀ p, p ≠ 37 → p ≠ 38 → ∀ j, σ'.1 p j = σ.1 p j) {L : List Nat} (h1 : σ'.1 37 1 = nI L.length) (h3 : ∀ j, j < L.length → σ'.1 38 j = nI (L.getD j 0)) : RX (acD D L) hb It σ' := by
  have eI : ∀ ks : List Nat, (∀ p, p ∈ ks → p ≠ 37 ∧ p ≠ 38) → eqI ks σ σ' := fun ks hks p hp j => ho p (hks p hp).1 (hks p hp).2 j
  refine ⟨rxH_of (D := acD D L) h.1 (eI _ (by decide)), rxT_of (D := acD D L) h.2.1 (eI _ (by decide)), rxL_of (D := acD D L) h.2.2.1 (eI _ (by decide)) (by rw [h2]), ⟨h1, fun k hk _ => ?_⟩, rxP_of (D := acD D L) h.2.2.2.2 (eI _ (by decide)) (fun j => by rw [h2])⟩
  rw [h3 k hk]
  show nI (L.getD k 0) = nI (if 1 + k = 0 then L.length else L.getD (1 + k - 1) 0)
  rw [if_neg (by omega), Nat.add_sub_cancel_left]
theorem x_act {Φ : Int32 → hv_S → Prop} (hR : RX D hb It σ) (hW : hWF D) (x y z w : Int32) (kk : ∀ σ', RX (acR D x y z w).2 hb It σ' → Φ (acR D x y z w).1 σ') : hv_CI l (hv_e1 e) 6 m_X9_act [.ref 0, .int x, .int y, .int z, .int w] σ Φ := by
  have hn := hW.1
  unfold acR at kk
  refine B_X9_act _ _ _ _ (B_X0_clear ?_)
  have hR1 : RX (acD D []) hb It (hv_ui σ 37 1 0) := hR.ac (σ' := hv_ui σ 37 1 0) rfl (fun p h1 h2 j => by rw [ui_1, if_neg (fun c => h1 c.1)]) (by rw [ui_1, if_pos ⟨rfl, rfl⟩]; rfl) (fun j hj => absurd hj (by simp))
  have hW1 : hWF (acD D []) := acD_W hW (by decide)
  refine x_sits hR1 hW1 x (fun h => ⟨fun _ => ?_, fun q => absurd rfl q⟩) (fun a ha hx => ⟨fun q => absurd q (by decide), fun _ => x_isMatter y (fun h => ⟨fun _ => ?_, fun q => absurd rfl q⟩) (fun m hm hy => ⟨fun q => absurd q (by decide), fun _ => ⟨fun q => ?_, fun q1 => ⟨fun q2 => ?_, fun q => ?_⟩⟩⟩)⟩)
  · rw [an1_out (by omega) (show ∀ m, m < D 0 0 → x ≠ nI m from h)] at kk; exact kk _ hR1
  · rw [hx, an1_in (by omega) (show a < D 0 0 from ha), an1_out (by omega) h] at kk; exact kk _ hR1
  · rw [hx, an1_in (by omega) (show a < D 0 0 from ha), hy, an1_in (by omega) hm, if_pos (Or.inl q)] at kk; exact kk _ hR1
  · rw [hx, an1_in (by omega) (show a < D 0 0 from ha), hy, an1_in (by omega) hm, if_neg (fun c => c.elim q1 (fun c => (Int32.not_lt.mpr q2) c))] at kk
    have ha : a < D 0 0 := ha
    subst hx
    subst hy
    have hk6 : D 1 (8 * m + a) < 6 := by have := (hW.2.2.2.2.2.2.2.2.2.1 (8 * m + a) (by omega)).1; omega
    refine B_X9_cell _ _ ?_
    rw [cellI, nI_clamp (by omega)]
    have e4 : (hv_ui σ 37 1 0).1 4 (8 * m + a) = nI (D 1 (8 * m + a)) := (hR1.1.2.2.2 (8 * m + a) (by omega)).2.1
    rw [e4]
    generalize D 1 (8 * m + a) = k at *
    have hA : akI σ (hv_ui (hv_ui (hv_ui (hv_ui σ 37 1 0) 37 2 (nI k)) 37 3 (nI a)) 37 4 (nI m)) k a m [] := by
      refine ⟨by simp [ui_1], by simp [ui_1], by simp [ui_1], ⟨?_, fun j hj => absurd hj (by simp)⟩, rfl, fun p h1 h2 j => ?_⟩
      · simp only [ui_1]; rfl
      · simp only [ui_1, h1, false_and, if_false]
    have fin : ∀ L σ', akI σ σ' k a m L → RX (acD D L) hb It σ' := fun L σ' h => hR.ac h.2.2.2.2.1 h.2.2.2.2.2 h.2.2.2.1.1 h.2.2.2.1.2
    refine ⟨vp_in_nI (by omega) (by decide), B_X0_run _ _ _ _ _ ⟨fun q => ?_, fun q => ?_, fun q3 q4 => ?_⟩⟩
    · rw [if_pos q] at kk
      exact x_gives w hA hk6 (by decide) (fun σ' h => kk σ' (fin _ _ h))
    · rw [if_neg (fun c => by rw [q] at c; exact absurd c (by decide)), if_pos q] at kk
      exact x_holds w hA hk6 (by decide) (fun σ' h => kk σ' (fin _ _ h))
    · rw [if_neg q3, if_neg q4] at kk
      exact x_tells w hA hk6 (fun σ' h => kk σ' (fin _ _ h))
  · rw [hx, an1_in (by omega) (show a < D 0 0 from ha), hy, an1_in (by omega) hm, if_pos (Or.inr (Int32.not_le.mp q))] at kk; exact kk _ hR1
theorem x_trace {Φ : Int32 → hv_S → Prop} (hR : RX D hb It σ) (hW : hWF D) (x : Int32) (kk : Φ (trA D x) σ) : hv_CI l (hv_e1 e) 2 m_X9_trace [.ref 0, .int x] σ Φ := by
  have h9 : D 9 0 ≤ 100 := hW.2.2.2.2.2.2.2.2.2.2.2.2.1
  unfold trA at kk
  have ek : (if 20 < nI (D 9 0) then 20 else nI (D 9 0)) = nI (min (D 9 0) 20) := by
    have c : (20 : Int32) < nI (D 9 0) ↔ 20 < D 9 0 := nI_ltI (a := 20) (by decide) (by omega)
    by_cases q : 20 < D 9 0
    · rw [if_pos (c.mpr q), Nat.min_eq_right (by omega)]; rfl
    · rw [if_neg (fun z => q (c.mp z)), Nat.min_eq_left (by omega)]
  refine B_X9_trace _ ⟨fun q => ?_, fun q1 => B_X0_kept ?_⟩
  · unfold an1 at kk; rw [if_pos (Or.inl q)] at kk; exact kk
  · rw [hR.2.2.2.1.1, ek]
    refine ⟨fun q => ?_, fun q => ?_⟩
    · rcases i32_cases x with c | ⟨n, hn, rfl⟩
      · exact absurd c q1
      · have q2 := (nI_ltI hn (by omega)).mp q
        rw [an1_in (by omega) q2] at kk
        rw [nI_clamp hn, hR.2.2.2.1.2 n (by omega) (by omega)]
        exact ⟨vp_in_nI (by omega) (by decide), kk⟩
    · unfold an1 at kk; rw [if_pos (Or.inr (Int32.not_lt.mp q))] at kk; exact kk
end AC
