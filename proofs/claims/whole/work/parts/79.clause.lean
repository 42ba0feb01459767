-- CLAUSES
abbrev hHs : Type := hQ × List Int32 × hVl
def updN (N : hQ) (j v : Nat) : hQ := if j = 2 then (v, N.2) else if j = 3 then (N.1, v, N.2.2) else if j = 4 then (N.1, N.2.1, v, N.2.2.2) else (N.1, N.2.1, N.2.2.1, v)
def ndS (T : Nat → Nat) (n p : Nat) : Nat ⊕ (Nat × Nat × Nat) :=
  if (fgP T n p).2.2 = 0 then .inl (fgP T n p).1 else if seeN T n (fgP T n p).1 ≠ 32 then .inl (fgP T n p).1 else
  if (fgP T n ((fgP T n p).1 + 1)).2.2 = 0 then .inl (fgP T n ((fgP T n p).1 + 1)).1 else
  if (fgP T n ((fgP T n p).1 + 1)).2.1 = 0 then .inl (if (fgP T n ((fgP T n p).1 + 1)).2.2 = 3 then (fgP T n ((fgP T n p).1 + 1)).1 - 1 else (fgP T n ((fgP T n p).1 + 1)).1)
  else .inr ((fgP T n ((fgP T n p).1 + 1)).1, (fgP T n p).2.1, (fgP T n ((fgP T n p).1 + 1)).2.1)
def barS (T : Nat → Nat) (n q : Nat) (s : hHs) : Nat ⊕ (Nat × hHs) := match eiP T n (sgP T n 4) q with
  | .inl q => .inl q
  | .inr a => .inr (a.1, s.1, s.2.1 ++ a.2.1, fun F => s.2.2 F || a.2.2 F)
def needS (T : Nat → Nat) (n q : Nat) (s : hHs) : Nat ⊕ (Nat × hHs) := match ndS T n q with
  | .inl q => .inl q
  | .inr b => .inr (b.1, updN (updN s.1 3 b.2.1) 4 b.2.2, s.2)
def clP (T : Nat → Nat) (n p : Nat) (s : hHs) : Nat ⊕ (Nat × hHs) :=
  if seeN T n p = 98 then (if (wdS T n (wrd 0) p).1 = true then barS T n (wdS T n (wrd 0) p).2 s else .inl (wdS T n (wrd 0) p).2)
  else if seeN T n p = 99 then (if (wdS T n (wrd 1) p).1 = true then (if (fgP T n (wdS T n (wrd 1) p).2).2.2 = 0 then .inl (fgP T n (wdS T n (wrd 1) p).2).1 else .inr ((fgP T n (wdS T n (wrd 1) p).2).1, updN s.1 2 (fgP T n (wdS T n (wrd 1) p).2).2.1, s.2)) else .inl (wdS T n (wrd 1) p).2)
  else if seeN T n p = 110 then (if (wdS T n (wrd 2) p).1 = true then needS T n (wdS T n (wrd 2) p).2 s else .inl (wdS T n (wrd 2) p).2)
  else if seeN T n p = 114 then (if (wdS T n (wrd 3) p).1 = true then (if seeN T n (wdS T n (wrd 3) p).2 = 108 then .inr ((wdS T n (wrd 3) p).2 + 1, updN s.1 5 0, s.2) else if seeN T n (wdS T n (wrd 3) p).2 = 98 then .inr ((wdS T n (wrd 3) p).2 + 1, updN s.1 5 1, s.2) else .inl (wdS T n (wrd 3) p).2) else .inl (wdS T n (wrd 3) p).2)
  else .inl p
def faP (T : Nat → Nat) (n : Nat) : Nat → Nat → hHs → Nat ⊕ hHs
  | 0, p, _ => .inl p
  | f + 1, p, s => match clP T n p s with
    | .inl q => .inl q
    | .inr b => if b.1 = n then .inr b.2 else if f = 0 ∨ seeN T n b.1 ≠ 59 then .inl b.1 else faP T n f (b.1 + 1) b.2
def rdH (T : Nat → Nat) (n : Nat) : Nat ⊕ hHs := faP T n 6 0 ((999, 1, 2, 0), [], fun _ => false)
def kCL (F : Nat → Prop) (K : Nat × hHs → Prop) : Nat ⊕ (Nat × hHs) → Prop
  | .inl q => F q
  | .inr a => K a
section CL
variable {l : Launch} {e : hv_Ev} {σ σ0 : hv_S} {T : Nat → Nat} {n r p : Nat} {N : hQ} {C : List Int32}
theorem pxI.nr (hr : hv_isR r) (h : pxI σ0 r n p N C σ) {j v : Nat} (hj : j = 2 ∨ j = 3 ∨ j = 4 ∨ j = 5) : pxI σ0 r n p (updN N j v) C (hv_ui σ r j (nI v)) := by
  obtain ⟨⟨h1, h2, h3, h4⟩, ⟨h5, h6, h7, h8⟩, h9, h10⟩ := h
  have r9 : r ≠ 9 ∧ r + 1 ≠ 9 := by rcases hr with rfl | rfl <;> decide
  refine ⟨⟨h1, fun k k9 kr kr1 i => ?_, ?_, ?_⟩, ?_, ?_, fun i hi => ?_⟩
  · rw [ui_1, if_neg (fun z => kr z.1)]; exact h2 k k9 kr kr1 i
  · rw [ui_1, if_neg (fun z => r9.1 z.1.symm)]; exact h3
  · rw [ui_1, if_neg (fun z => r9.1 z.1.symm)]; exact h4
  · rcases hj with rfl | rfl | rfl | rfl
    · exact ⟨by rw [ui_1, if_pos ⟨rfl, rfl⟩]; rfl, by rw [ui_1, if_neg (fun z => absurd z.2 (by decide))]; exact h6, by rw [ui_1, if_neg (fun z => absurd z.2 (by decide))]; exact h7, by rw [ui_1, if_neg (fun z => absurd z.2 (by decide))]; exact h8⟩
    · exact ⟨by rw [ui_1, if_neg (fun z => absurd z.2 (by decide))]; exact h5, by rw [ui_1, if_pos ⟨rfl, rfl⟩]; rfl, by rw [ui_1, if_neg (fun z => absurd z.2 (by decide))]; exact h7, by rw [ui_1, if_neg (fun z => absurd z.2 (by decide))]; exact h8⟩
    · exact ⟨by rw [ui_1, if_neg (fun z => absurd z.2 (by decide))]; exact h5, by rw [ui_1, if_neg (fun z => absurd z.2 (by decide))]; exact h6, by rw [ui_1, if_pos ⟨rfl, rfl⟩]; rfl, by rw [ui_1, if_neg (fun z => absurd z.2 (by decide))]; exact h8⟩
    · exact ⟨by rw [ui_1, if_neg (fun z => absurd z.2 (by decide))]; exact h5, by rw [ui_1, if_neg (fun z => absurd z.2 (by decide))]; exact h6, by rw [ui_1, if_neg (fun z => absurd z.2 (by decide))]; exact h7, by rw [ui_1, if_pos ⟨rfl, rfl⟩]; rfl⟩
  · rw [ui_1, if_neg (fun z => by omega)]; exact h9
  · rw [ui_1, if_neg (fun z => by omega)]; exact h10 i hi
theorem x_wordK {Φ : Int32 → hv_S → Prop} {w : Nat} (hw : w < 7) (hr : hv_isR r) (hT : txI T n σ0) (h : pxI σ0 r n p N C σ) (hp : p ≤ n)
    (k0 : (wdS T n (wrd w) p).1 = false → ∀ σ', pxF σ0 r n (wdS T n (wrd w) p).2 σ' → Φ 0 σ') (k1 : (wdS T n (wrd w) p).1 = true → ∀ σ', pxI σ0 r n (wdS T n (wrd w) p).2 N C σ' → Φ 1 σ') : hv_CI l (hv_e1 e) 5 m_X1_word [.ref 9, .ref (1000 + w)] σ Φ := by
  refine x_word hw hr hT h hp (fun σ' h' => ?_)
  cases c : (wdS T n (wrd w) p).1 with
  | false => exact k0 c σ' h'.1
  | true => exact k1 c σ' h'
theorem wrd_256 : ∀ w, w < 7 → ∀ c, c ∈ wrd w → c < 256 := by decide
theorem x_need {Φ : Int32 → hv_S → Prop} (hr : hv_isR r) (h95 : σ0.2.2 9 5 = r) (hT : txI T n σ0) (h : pxI σ0 r n p N C σ) (hp : p ≤ n)
    (k : match ndS T n p with | .inl q => ∀ σ', pxF σ0 r n q σ' → Φ 0 σ' | .inr b => ∀ σ', pxI σ0 r n b.1 (updN (updN N 3 b.2.1) 4 b.2.2) C σ' → Φ 1 σ') : hv_CI l (hv_e1 e) 6 m_X1_need [.ref 9] σ Φ := by
  have hn := hT.1
  have ok1 := fgP_ok (T := T) (n := n) (p := p) hp
  unfold ndS at k
  refine B_X1_need (x_figs hr hT h hp (fun σ1 h1 e3 e4 => ?_))
  by_cases c1 : (fgP T n p).2.2 = 0
  · rw [if_pos c1] at k ⊢
    exact ⟨fun q => absurd rfl q, fun _ => k σ1 h1.1⟩
  · rw [if_neg c1] at k ⊢
    refine ⟨fun _ => ?_, fun q => absurd q (by decide)⟩
    rw [rR hr h95 h1.1, e3]
    refine ⟨hr, x_wordK (w := 4) (by decide) hr hT (h1.nr hr (j := 3) (by decide)) ok1.2.2.1 (fun z σ2 h2 => ?_) (fun z σ2 h2 => ?_)⟩
    · have ew : wdS T n (wrd 4) (fgP T n p).1 = if seeN T n (fgP T n p).1 = 32 then (true, (fgP T n p).1 + 1) else (false, (fgP T n p).1) := rfl
      rw [ew] at z h2
      by_cases c2 : seeN T n (fgP T n p).1 = 32
      · rw [if_pos c2] at z; exact Bool.noConfusion z
      · rw [if_neg c2] at h2
        rw [if_pos c2] at k
        exact ⟨fun _ => k σ2 h2, fun q => absurd rfl q⟩
    · have ew : wdS T n (wrd 4) (fgP T n p).1 = if seeN T n (fgP T n p).1 = 32 then (true, (fgP T n p).1 + 1) else (false, (fgP T n p).1) := rfl
      rw [ew] at z h2
      by_cases c2 : seeN T n (fgP T n p).1 = 32
      · rw [if_pos c2] at h2
        rw [if_neg (fun q => q c2)] at k
        have l1 := see_lt c2 (by decide)
        have ok2 := fgP_ok (T := T) (n := n) (p := (fgP T n p).1 + 1) l1
        refine ⟨fun q => absurd q (by decide), fun _ => x_figs hr hT h2 l1 (fun σ3 h3 g3 g4 => ?_)⟩
        have h3 : pxI σ0 r n (fgP T n ((fgP T n p).1 + 1)).1 (updN N 3 (fgP T n p).2.1) C σ3 := h3
        have g3 : σ3.1 9 3 = nI (fgP T n ((fgP T n p).1 + 1)).2.1 := g3
        have g4 : σ3.1 9 4 = nI (fgP T n ((fgP T n p).1 + 1)).2.2 := g4
        show ((if (fgP T n ((fgP T n p).1 + 1)).2.2 = 0 then (0 : Int32) else 1) ≠ 0 → _) ∧ ((if (fgP T n ((fgP T n p).1 + 1)).2.2 = 0 then (0 : Int32) else 1) = 0 → _)
        generalize fgP T n ((fgP T n p).1 + 1) = b at *
        by_cases c3 : b.2.2 = 0
        · rw [if_pos c3] at k ⊢
          exact ⟨fun q => absurd rfl q, fun _ => k σ3 h3.1⟩
        · rw [if_neg c3] at k ⊢
          refine ⟨fun _ => ?_, fun q => absurd q (by decide)⟩
          rw [g3, g4, rR hr h95 h3.1]
          have z0 : nI b.2.1 = 0 ↔ b.2.1 = 0 := nI_eq (b := 0) (by omega) (by decide)
          have z3 : nI b.2.2 = 3 ↔ b.2.2 = 3 := nI_eq (b := 3) (by omega) (by decide)
          rw [ne_eq, ne_eq, z0, z3]
          refine ⟨fun q => ?_, fun q => ?_⟩
          · rw [if_neg q] at k
            exact ⟨hr, k _ (h3.nr hr (j := 4) (by decide))⟩
          · rw [if_pos q] at k
            refine ⟨fun q2 => ?_, fun q2 => ?_⟩
            · rw [if_neg q2] at k; exact k σ3 h3.1
            · rw [if_pos q2] at k
              have e5 : σ3.1 9 2 - 1 = nI (b.1 - 1) := by rw [h3.1.2.2.2, show (1 : Int32) = nI 1 from rfl, pk_sub (by omega)]
              rw [e5]
              exact k _ (h3.1.at (b.1 - 1))
      · rw [if_neg c2] at z; exact Bool.noConfusion z
theorem x_ring {Φ : Int32 → hv_S → Prop} (hr : hv_isR r) (h95 : σ0.2.2 9 5 = r) (hT : txI T n σ0) (h : pxI σ0 r n p N C σ) (hp : p ≤ n)
    (k0 : seeN T n p ≠ 108 → seeN T n p ≠ 98 → Φ 0 σ) (kl : seeN T n p = 108 → ∀ σ', pxI σ0 r n (p + 1) (updN N 5 0) C σ' → Φ 1 σ') (kb : seeN T n p = 98 → ∀ σ', pxI σ0 r n (p + 1) (updN N 5 1) C σ' → Φ 1 σ') : hv_CI l (hv_e1 e) 1 m_X1_ring [.ref 9] σ Φ := by
  have cl : seI (seeN T n p) = 108 ↔ seeN T n p = 108 := seI_eq (k := 108) (by decide)
  have cb : seI (seeN T n p) = 98 ↔ seeN T n p = 98 := seI_eq (k := 98) (by decide)
  have go : ∀ v, v ≤ 1 → (v = 1 ↔ seeN T n p = 98) → (∀ σ', pxI σ0 r n (p + 1) (updN N 5 v) C σ' → Φ 1 σ') → L_X1_ring_19 l e Φ (seI (seeN T n p)) σ := fun v hv hvv kk => by
    refine B_X1_ring_19 _ ?_
    rw [rR hr h95 h.1, ne_eq, cb]
    have r9 : r ≠ 9 := by rcases hr with rfl | rfl <;> decide
    have ep : ∀ w : Int32, (hv_ui σ r 5 w).1 9 2 + 1 = nI (p + 1) := fun w => by rw [ui_1, if_neg (fun z => r9 z.1.symm), h.1.2.2.2, nI_1]
    rw [ep, ep]
    refine ⟨hr, fun q => ?_, fun q => ?_⟩
    · have : v = 0 := by
        rcases (show v = 0 ∨ v = 1 by omega) with z | z
        · exact z
        · exact absurd (hvv.mp z) q
      subst this
      exact kk _ ((h.nr hr (j := 5) (v := 0) (by decide)).at hr (p + 1))
    · have : v = 1 := hvv.mpr q
      subst this
      exact kk _ ((h.nr hr (j := 5) (v := 1) (by decide)).at hr (p + 1))
  refine B_X1_ring (x_seen hr hT h.1 hp ?_)
  rw [cl, cb]
  refine ⟨fun q => go 0 (by decide) ⟨fun z => absurd z (by decide), fun z => by omega⟩ (kl q), fun q => ⟨fun q2 => go 1 (by decide) ⟨fun _ => q2, fun _ => rfl⟩ (kb q2), fun q2 => k0 q q2⟩⟩
theorem x_clause {Φ : Int32 → hv_S → Prop} {v : hVl} (hr : hv_isR r) (h95 : σ0.2.2 9 5 = r) (hT : txI T n σ0) (h : pxI σ0 r n p N C σ) (hp : p ≤ n) (hC : C.length ≤ p)
    (k : kCL (fun q => ∀ σ', pxF σ0 r n q σ' → Φ 0 σ') (fun b => ∀ σ', pxI σ0 r n b.1 b.2.1 b.2.2.1 σ' → Φ 1 σ') (clP T n p (N, C, v))) : hv_CI l (hv_e1 e) 17 m_X1_clause [.ref 9] σ Φ := by
  have hn := hT.1
  unfold clP at k
  have c98 : seI (seeN T n p) = 98 ↔ seeN T n p = 98 := seI_eq (k := 98) (by decide)
  have c99 : seI (seeN T n p) = 99 ↔ seeN T n p = 99 := seI_eq (k := 99) (by decide)
  have c110 : seI (seeN T n p) = 110 ↔ seeN T n p = 110 := seI_eq (k := 110) (by decide)
  have c114 : seI (seeN T n p) = 114 ↔ seeN T n p = 114 := seI_eq (k := 114) (by decide)
  have two : ∀ Ψ : Int32 → hv_S → Prop, Ψ = (fun v s => ((v = 0 → Φ 0 s) ∧ (¬ v = 0 → Φ 1 s))) → (∀ s, Φ 0 s → Ψ 0 s) ∧ ∀ s, Φ 1 s → Ψ 1 s := fun Ψ hΨ => by
    subst hΨ
    exact ⟨fun s h => ⟨fun _ => h, fun q => absurd rfl q⟩, fun s h => ⟨fun q => absurd q (by decide), fun _ => h⟩⟩
  refine B_X1_clause (x_seen hr hT h.1 hp ?_)
  rw [c98, c99, c110, c114]
  refine ⟨fun q => ?_, fun q => ?_, fun q => ?_, fun q => ?_, fun q1 q2 q3 q4 => ?_⟩
  · rw [if_pos q] at k
    refine x_wordK (w := 0) (by decide) hr hT h hp (fun z σ1 h1 => ⟨fun _ => ?_, fun q => absurd rfl q⟩) (fun z σ1 h1 => ⟨fun q => absurd q (by decide), fun _ => ?_⟩)
    · rw [if_neg (by rw [z]; decide)] at k; exact k σ1 h1
    · rw [if_pos z] at k
      have hw := wd_ok (T := T) (n := n) (wrd 0) p (wrd_256 0 (by decide)) hp
      unfold barS at k
      refine x_either (k := 4) (C := C) hr h95 hT (x_single hr h95 hT 4 (by decide)) (by decide) hw.2 (by omega) h1 ?_
      obtain ⟨t0, t1⟩ := two _ rfl
      cases hres : eiP T n (sgP T n 4) (wdS T n (wrd 0) p).2 with
      | inl q => rw [hres] at k; exact fun σ' h' => t0 σ' (k σ' h')
      | inr a => rw [hres] at k; exact fun σ' h' => t1 σ' (k σ' h')
  · rw [if_neg (by omega), if_pos q] at k
    refine x_wordK (w := 1) (by decide) hr hT h hp (fun z σ1 h1 => ⟨fun _ => ?_, fun q => absurd rfl q⟩) (fun z σ1 h1 => ⟨fun q => absurd q (by decide), fun _ => ?_⟩)
    · rw [if_neg (by rw [z]; decide)] at k; exact k σ1 h1
    · rw [if_pos z] at k
      have hw := wd_ok (T := T) (n := n) (wrd 1) p (wrd_256 1 (by decide)) hp
      refine x_figs hr hT h1 hw.2 (fun σ2 h2 e3 e4 => ?_)
      by_cases c1 : (fgP T n (wdS T n (wrd 1) p).2).2.2 = 0
      · rw [if_pos c1] at k ⊢
        exact ⟨fun q => absurd rfl q, fun _ => k σ2 h2.1⟩
      · rw [if_neg c1] at k ⊢
        refine ⟨fun _ => ?_, fun q => absurd q (by decide)⟩
        rw [rR hr h95 h2.1, e3]
        exact ⟨hr, k _ (h2.nr hr (j := 2) (by decide))⟩
  · rw [if_neg (by omega), if_neg (by omega), if_pos q] at k
    refine x_wordK (w := 2) (by decide) hr hT h hp (fun z σ1 h1 => ⟨fun _ => ?_, fun q => absurd rfl q⟩) (fun z σ1 h1 => ⟨fun q => absurd q (by decide), fun _ => ?_⟩)
    · rw [if_neg (by rw [z]; decide)] at k; exact k σ1 h1
    · rw [if_pos z] at k
      have hw := wd_ok (T := T) (n := n) (wrd 2) p (wrd_256 2 (by decide)) hp
      unfold needS at k
      refine x_need hr h95 hT h1 hw.2 ?_
      obtain ⟨t0, t1⟩ := two _ rfl
      cases hres : ndS T n (wdS T n (wrd 2) p).2 with
      | inl q => rw [hres] at k; exact fun σ' h' => t0 σ' (k σ' h')
      | inr a => rw [hres] at k; exact fun σ' h' => t1 σ' (k σ' h')
  · rw [if_neg (by omega), if_neg (by omega), if_neg (by omega), if_pos q] at k
    refine x_wordK (w := 3) (by decide) hr hT h hp (fun z σ1 h1 => ⟨fun _ => ?_, fun q => absurd rfl q⟩) (fun z σ1 h1 => ⟨fun q => absurd q (by decide), fun _ => ?_⟩)
    · rw [if_neg (by rw [z]; decide)] at k; exact k σ1 h1
    · rw [if_pos z] at k
      have hw := wd_ok (T := T) (n := n) (wrd 3) p (wrd_256 3 (by decide)) hp
      obtain ⟨t0, t1⟩ := two _ rfl
      refine x_ring hr h95 hT h1 hw.2 (fun w1 w2 => ?_) (fun w1 σ' h' => ?_) (fun w1 σ' h' => ?_)
      · rw [if_neg w1, if_neg w2] at k; exact t0 σ1 (k σ1 h1.1)
      · rw [if_pos w1] at k; exact t1 σ' (k σ' h')
      · rw [if_neg (by omega), if_pos w1] at k; exact t1 σ' (k σ' h')
  · rw [if_neg q1, if_neg q2, if_neg q3, if_neg q4] at k; exact k σ h.1
end CL
-- what a hall says
def hsOk (b p : Nat) (s : hHs) : Prop := (s.1.1 ≤ 999 ∧ s.1.2.1 ≤ 999 ∧ 1 ≤ s.1.2.2.1 ∧ s.1.2.2.1 ≤ 999 ∧ s.1.2.2.2 ≤ 1) ∧ s.2.1.length ≤ p ∧ (∀ x, x ∈ s.2.1 → wfI x) ∧ ∀ F, rnL F s.2.1 0 < 2 ^ b ∧ (s.2.2 F = true ↔ rnL F s.2.1 0 ≠ 0) ∧ ∀ k, k ≤ s.2.1.length → rnL F (s.2.1.take k) 0 < 65536
section HO
variable {T : Nat → Nat} {n : Nat}
theorem cl_ok {p b : Nat} {s : hHs} (hp : p ≤ n) (hb : b ≤ 5) (h : hsOk b p s) : kCL (fun q => q ≤ n) (fun a => p < a.1 ∧ a.1 ≤ n ∧ hsOk (b + 1) a.1 a.2) (clP T n p s) := by
  obtain ⟨⟨g1, g2, g3, g4, g5⟩, g6, g7, g8⟩ := h
  have lift : ∀ (q : Nat) (N : hQ), p ≤ q → (N.1 ≤ 999 ∧ N.2.1 ≤ 999 ∧ 1 ≤ N.2.2.1 ∧ N.2.2.1 ≤ 999 ∧ N.2.2.2 ≤ 1) → hsOk (b + 1) q (N, s.2) := fun q N hq hN => by
    refine ⟨hN, Nat.le_trans g6 hq, g7, fun F => ⟨Nat.lt_trans (g8 F).1 (Nat.pow_lt_pow_right (by decide) (Nat.lt_succ_self b)), (g8 F).2⟩⟩
  unfold clP
  by_cases c1 : seeN T n p = 98
  · rw [if_pos c1]
    have hw := wd_ok (T := T) (n := n) (wrd 0) p (wrd_256 0 (by decide)) hp
    by_cases c : (wdS T n (wrd 0) p).1 = true
    · rw [if_pos c]
      unfold barS
      have hok := ei_ok (T := T) (n := n) (h := 1 + 2 * 4) (by decide) (fun p hp => sg_ok (T := T) (n := n) 4 p hp) (wdS T n (wrd 0) p).2 hw.2
      cases hres : eiP T n (sgP T n 4) (wdS T n (wrd 0) p).2 with
      | inl q => rw [hres] at hok; exact hok.2
      | inr a =>
        rw [hres] at hok
        obtain ⟨o1, o2, o3, o4⟩ := hok
        refine ⟨by show p < a.1; omega, o2, ⟨g1, g2, g3, g4, g5⟩, ?_, fun x hx => ?_, fun F => ?_⟩
        · show (s.2.1 ++ a.2.1).length ≤ a.1
          rw [List.length_append]; omega
        · rcases List.mem_append.mp hx with q | q
          · exact g7 x q
          · exact o4.1 x q
        · obtain ⟨z1, z2, z3⟩ := g8 F
          obtain ⟨y1, y2⟩ := o4.2 F (rnL F s.2.1 0) b z1 (by omega)
          have hb2 := btN_2 (a.2.2 F)
          have hpw : 2 ^ (b + 1) = 2 ^ b * 2 := Nat.pow_succ _ _
          have ea : rnL F (s.2.1 ++ a.2.1) 0 = 2 * rnL F s.2.1 0 + btN (a.2.2 F) := by rw [rnL_app, y1]
          refine ⟨by show rnL F (s.2.1 ++ a.2.1) 0 < _; rw [ea]; omega, ?_, fun k hk => ?_⟩
          · show (s.2.2 F || a.2.2 F) = true ↔ rnL F (s.2.1 ++ a.2.1) 0 ≠ 0
            rw [ea, Bool.or_eq_true, z2]
            cases a.2.2 F
            · simp [btN]; omega
            · simp [btN]
          · have hk : k ≤ (s.2.1 ++ a.2.1).length := hk
            show rnL F ((s.2.1 ++ a.2.1).take k) 0 < 65536
            by_cases q : k ≤ s.2.1.length
            · rw [List.take_append_of_le_length q]; exact z3 k q
            · rw [List.length_append] at hk
              rw [List.take_append, List.take_of_length_le (by omega), rnL_app]
              exact Nat.lt_of_lt_of_le (y2 (k - s.2.1.length) (by omega)) (show 2 ^ (b + (1 + 2 * 4 + 2)) ≤ 2 ^ 16 from Nat.pow_le_pow_right (by decide) (by omega))
    · rw [if_neg c]; exact hw.2
  · rw [if_neg c1]
    by_cases c2 : seeN T n p = 99
    · rw [if_pos c2]
      have hw := wd_ok (T := T) (n := n) (wrd 1) p (wrd_256 1 (by decide)) hp
      by_cases c : (wdS T n (wrd 1) p).1 = true
      · rw [if_pos c]
        obtain ⟨f1, f2, f3, f4⟩ := fgP_ok (T := T) (n := n) (p := (wdS T n (wrd 1) p).2) hw.2
        by_cases c3 : (fgP T n (wdS T n (wrd 1) p).2).2.2 = 0
        · rw [if_pos c3]; exact f3
        · rw [if_neg c3]
          exact ⟨by show p < (fgP T n (wdS T n (wrd 1) p).2).1; omega, f3, lift _ _ (by omega) ⟨by show (fgP T n (wdS T n (wrd 1) p).2).2.1 ≤ 999; omega, g2, g3, g4, g5⟩⟩
      · rw [if_neg c]; exact hw.2
    · rw [if_neg c2]
      by_cases c3 : seeN T n p = 110
      · rw [if_pos c3]
        have hw := wd_ok (T := T) (n := n) (wrd 2) p (wrd_256 2 (by decide)) hp
        by_cases c : (wdS T n (wrd 2) p).1 = true
        · rw [if_pos c]
          unfold needS ndS
          obtain ⟨f1, f2, f3, f4⟩ := fgP_ok (T := T) (n := n) (p := (wdS T n (wrd 2) p).2) hw.2
          generalize fgP T n (wdS T n (wrd 2) p).2 = a at *
          by_cases d1 : a.2.2 = 0
          · rw [if_pos d1]; exact f3
          · rw [if_neg d1]
            by_cases d2 : seeN T n a.1 = 32
            · rw [if_neg (fun z => z d2)]
              obtain ⟨e1, e2, e3, e4⟩ := fgP_ok (T := T) (n := n) (p := a.1 + 1) (see_lt d2 (by decide))
              generalize fgP T n (a.1 + 1) = bb at *
              by_cases d3 : bb.2.2 = 0
              · rw [if_pos d3]; exact e3
              · rw [if_neg d3]
                by_cases d4 : bb.2.1 = 0
                · rw [if_pos d4]
                  by_cases d5 : bb.2.2 = 3
                  · rw [if_pos d5]; show bb.1 - 1 ≤ n; omega
                  · rw [if_neg d5]; exact e3
                · rw [if_neg d4]
                  exact ⟨by show p < bb.1; omega, e3, lift _ _ (by omega) ⟨g1, by show a.2.1 ≤ 999; omega, by show 1 ≤ bb.2.1; omega, by show bb.2.1 ≤ 999; omega, g5⟩⟩
            · rw [if_pos d2]; exact f3
        · rw [if_neg c]; exact hw.2
      · rw [if_neg c3]
        by_cases c4 : seeN T n p = 114
        · rw [if_pos c4]
          have hw := wd_ok (T := T) (n := n) (wrd 3) p (wrd_256 3 (by decide)) hp
          by_cases c : (wdS T n (wrd 3) p).1 = true
          · rw [if_pos c]
            by_cases d1 : seeN T n (wdS T n (wrd 3) p).2 = 108
            · rw [if_pos d1]
              have l1 := see_lt d1 (by decide)
              exact ⟨by show p < _ + 1; omega, l1, lift _ _ (by omega) ⟨g1, g2, g3, g4, Nat.zero_le 1⟩⟩
            · rw [if_neg d1]
              by_cases d2 : seeN T n (wdS T n (wrd 3) p).2 = 98
              · rw [if_pos d2]
                have l1 := see_lt d2 (by decide)
                exact ⟨by show p < _ + 1; omega, l1, lift _ _ (by omega) ⟨g1, g2, g3, g4, Nat.le_refl 1⟩⟩
              · rw [if_neg d2]; exact hw.2
          · rw [if_neg c]; exact hw.2
        · rw [if_neg c4]; exact hp
theorem fa_ok : ∀ f p b (s : hHs), p ≤ n → b + f = 6 → hsOk b p s → (match faP T n f p s with | .inl q => q ≤ n | .inr s' => hsOk 6 n s') := by
  intro f
  induction f with
  | zero => intro p b s hp _ _; exact hp
  | succ f ih =>
    intro p b s hp hb h
    have hc := cl_ok (T := T) hp (by omega) h
    have e : faP T n (f + 1) p s = (match clP T n p s with | .inl q => .inl q | .inr b => if b.1 = n then .inr b.2 else if f = 0 ∨ seeN T n b.1 ≠ 59 then .inl b.1 else faP T n f (b.1 + 1) b.2) := rfl
    rw [e]
    cases hres : clP T n p s with
    | inl q => rw [hres] at hc; exact hc
    | inr a =>
      rw [hres] at hc
      obtain ⟨a1, a2, a3⟩ := hc
      show (match (if a.1 = n then (.inr a.2 : Nat ⊕ hHs) else if f = 0 ∨ seeN T n a.1 ≠ 59 then .inl a.1 else faP T n f (a.1 + 1) a.2) with | .inl q => q ≤ n | .inr s' => hsOk 6 n s')
      by_cases c : a.1 = n
      · rw [if_pos c]
        rw [c] at a3
        exact ⟨a3.1, a3.2.1, a3.2.2.1, fun F => ⟨Nat.lt_of_lt_of_le (a3.2.2.2 F).1 (Nat.pow_le_pow_right (by decide) (by omega)), (a3.2.2.2 F).2⟩⟩
      · rw [if_neg c]
        by_cases c2 : f = 0 ∨ seeN T n a.1 ≠ 59
        · rw [if_pos c2]; exact a2
        · rw [if_neg c2]
          have c3 : seeN T n a.1 = 59 := Classical.byContradiction (fun z => c2 (Or.inr z))
          exact ih (a.1 + 1) (b + 1) a.2 (see_lt c3 (by decide)) (by omega) ⟨a3.1, Nat.le_succ_of_le a3.2.1, a3.2.2⟩
theorem rd_ok : match rdH T n with | .inl q => q ≤ n | .inr s' => hsOk 6 n s' := by
  refine fa_ok 6 0 0 _ (Nat.zero_le n) rfl ⟨⟨by decide, by decide, by decide, by decide, by decide⟩, Nat.zero_le 0, fun x hx => absurd hx (by simp), fun F => ⟨(Nat.zero_lt_one : (0 : Nat) < 1), ?_, fun k hk => ?_⟩⟩
  · exact ⟨fun q => Bool.noConfusion q, fun q => absurd rfl q⟩
  · have : k = 0 := Nat.le_zero.mp hk
    subst this
    exact (by decide : (0 : Nat) < 65536)
end HO
