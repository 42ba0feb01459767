-- the same hands, the same voices
theorem rch_congr {n : Nat} {G G' : Nat → Nat → Nat} (e : ∀ a b, a < n → b < n → G a b = G' a b) : ∀ k a, a < n → (rch n G k a ↔ rch n G' k a) := by
  intro k
  induction k with
  | zero => intro a ha; show 0 < G a a ↔ 0 < G' a a; rw [e a a ha ha]
  | succ k ih =>
    intro a ha
    show (rch n G k a ∨ ∃ b, b < n ∧ 0 < G a b ∧ rch n G k b) ↔ (rch n G' k a ∨ ∃ b, b < n ∧ 0 < G' a b ∧ rch n G' k b)
    constructor
    · rintro (h | ⟨b, hb, h1, h2⟩)
      · exact Or.inl ((ih a ha).mp h)
      · exact Or.inr ⟨b, hb, by rw [← e a b ha hb]; exact h1, (ih b hb).mp h2⟩
    · rintro (h | ⟨b, hb, h1, h2⟩)
      · exact Or.inl ((ih a ha).mpr h)
      · exact Or.inr ⟨b, hb, by rw [e a b ha hb]; exact h1, (ih b hb).mpr h2⟩
theorem Rch_congr {n : Nat} {G G' : Nat → Nat → Nat} (e : ∀ a b, a < n → b < n → G a b = G' a b) {a : Nat} (ha : a < n) : Rch n G a ↔ Rch n G' a := exists_congr (fun k => rch_congr e k a ha)
theorem G0_congr {P : hPF} {h h' : hEH} {a : Nat} (e : h a = h' a) (b : Nat) : G0 P h a b = G0 P h' a b := by unfold G0; rw [e]
theorem isO_congr {h h' : hEH} {a : Nat} (e : h a = h' a) : isO h a = isO h' a := by unfold isO; rw [e]
theorem nmY_congr {h h' : hEH} {a : Nat} (e : h a = h' a) (y : Nat) : nmY h y a = nmY h' y a := by unfold nmY; rw [e]
theorem GW_congr {P : hPF} {h h' : hEH} {a : Nat} (e : h a = h' a) (y b : Nat) : GW P h y a b = GW P h' y a b := by unfold GW; rw [isO_congr e, nmY_congr e, G0_congr e]
theorem ordM_congr {P : hPF} {h h' : hEH} (e : ∀ a, a < P.1 → h a = h' a) : ordM P h = ordM P h' := msk_ext (fun a ha => isO_congr (e a ha))
theorem okY_congr {P : hPF} {h h' : hEH} (e : ∀ a, a < P.1 → h a = h' a) (y : Nat) : okY P h y = okY P h' y := by
  unfold okY
  refine bo_e ?_
  rw [ordM_congr e]
  refine and_congr Iff.rfl (and_congr ?_ ?_)
  · exact forall_congr' (fun a => forall_congr' (fun ha => by rw [isO_congr (e a ha), nmY_congr (e a ha)]))
  · exact forall_congr' (fun a => forall_congr' (fun ha => Rch_congr (fun a b ha' _ => GW_congr (e a ha') y b) ha))
theorem bstY_congr {P : hPF} {h h' : hEH} (e : ∀ a, a < P.1 → h a = h' a) : ∀ k, bstY P h k = bstY P h' k := by
  intro k
  induction k with
  | zero => rfl
  | succ k ih =>
    unfold bstY
    rw [okY_congr e, ih]
theorem GG_congr {P : hPF} {h h' : hEH} (e : ∀ a, a < P.1 → h a = h' a) (ring : Nat) {a : Nat} (ha : a < P.1) (b : Nat) : GG P ring h a b = GG P ring h' a b := by
  unfold GG bst
  rw [G0_congr (e a ha), ordM_congr e, bstY_congr e]
  split
  · rfl
  · cases bstY P h' (ordM P h' + 1) with
    | none => rfl
    | some y => exact GW_congr (e a ha) y b
theorem isV_congr {n : Nat} {G G' : Nat → Nat → Nat} (e : ∀ a b, a < n → b < n → G a b = G' a b) {cap : Nat} {W : Int} {v : Nat → Int} (h : isV n G cap W v) : isV n G' cap W v := by
  obtain ⟨h1, h2, x, h3, h4, h5⟩ := h
  have eh : ∀ a, a < n → hrd n G a = hrd n G' a := fun a ha => bo_e (Rch_congr e ha)
  refine ⟨h1, h2, x, fun a ha q => ?_, fun r hr q => ?_, fun a => ?_⟩
  · rw [← e a a ha ha]; exact h3 a ha (by rw [eh a ha]; exact q)
  · rw [← h4 r hr (by rw [eh r hr]; exact q)]
    exact sumI_congr (fun c hc => by rw [eh c hc, e c r hc hr])
  · rw [h5 a]
    by_cases ha : a < n
    · rw [eh a ha, e a a ha ha]
    · rw [if_neg (fun c => ha c.1), if_neg (fun c => ha c.1)]
theorem cnV_congr {D D' : hD} {hb hb' : hB} {m m' w w' S S' : Nat} {gt gt' : Option (Nat × Nat)} (hP : pfD D hb m = pfD D' hb' m') (h6 : D 0 6 = D' 0 6) (h3 : D 0 3 = D' 0 3)
    (hL' : ∀ a, a < D 0 0 → hL D m w S gt a = hL D' m' w' S' gt' a) : cnV D hb m w S gt = cnV D' hb' m' w' S' gt' := by
  have h0 : D 0 0 = D' 0 0 := congrArg (fun p : hPF => p.1) hP
  have eG : ∀ a b, a < D 0 0 → b < D 0 0 → GX D hb m w S gt a b = GX D' hb' m' w' S' gt' a b := fun a b ha _ => by
    unfold GX
    rw [← hP, ← h6]
    exact GG_congr (P := pfD D hb m) hL' (D 0 6) ha b
  unfold cnV
  refine congrArg _ (funext (fun p => propext ⟨fun q => ?_, fun q => ?_⟩))
  · rw [← h0, ← h3]; exact isV_congr eG q
  · rw [← h0, ← h3] at q; exact isV_congr (fun a b ha hb' => (eG a b ha hb').symm) q
