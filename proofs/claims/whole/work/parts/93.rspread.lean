-- THE REFERENCE: where voices go
/-- isBar's scratch and where voices go -/
def SB (σ σ' : hv_S) : Prop := σ'.2 = σ.2 ∧ (∀ k, (k < 60 ∨ 60 < k ∧ k < 70 ∨ 74 < k) → ∀ j, σ'.1 k j = σ.1 k j) ∧ ∀ j, (j < 14 ∨ 18 < j ∧ j < 24 ∨ 24 < j ∧ j < 27 ∨ 33 < j) → σ'.1 60 j = σ.1 60 j
theorem SB.refl (σ : hv_S) : SB σ σ := ⟨rfl, fun _ _ _ => rfl, fun _ _ => rfl⟩
theorem SB.trans {σ σ' σ'' : hv_S} (h : SB σ σ') (h2 : SB σ' σ'') : SB σ σ'' := ⟨h2.1.trans h.1, fun k hk j => (h2.2.1 k hk j).trans (h.2.1 k hk j), fun j hj => (h2.2.2 j hj).trans (h.2.2 j hj)⟩
theorem BE.sb {σ σ' : hv_S} (h : BE σ σ') : SB σ σ' := ⟨h.1, fun k hk j => h.2.1 k (by omega) j, h.2.2⟩
theorem SB.u {σ : hv_S} {j : Nat} {v : Int32} : SB σ (hv_ui σ 74 j v) := ⟨rfl, fun k' h j' => by rw [ui_1, if_neg (fun z => by omega)], fun j' h => by rw [ui_1, if_neg (fun z => absurd z.1 (by decide))]⟩
/-- beside it: minute, the best way, how many -/
def SC (σ σ' : hv_S) : Prop := σ'.2 = σ.2 ∧ (∀ k, (k < 60 ∨ 60 < k ∧ k < 70 ∨ 74 < k) → ∀ j, σ'.1 k j = σ.1 k j) ∧ ∀ j, (j < 14 ∨ 18 < j ∧ j < 24 ∨ 24 < j ∧ j < 27 ∨ 33 < j ∧ j < 35 ∨ 37 < j) → σ'.1 60 j = σ.1 60 j
theorem SC.refl (σ : hv_S) : SC σ σ := ⟨rfl, fun _ _ _ => rfl, fun _ _ => rfl⟩
theorem SC.trans {σ σ' σ'' : hv_S} (h : SC σ σ') (h2 : SC σ' σ'') : SC σ σ'' := ⟨h2.1.trans h.1, fun k hk j => (h2.2.1 k hk j).trans (h.2.1 k hk j), fun j hj => (h2.2.2 j hj).trans (h.2.2 j hj)⟩
theorem SB.sc {σ σ' : hv_S} (h : SB σ σ') : SC σ σ' := ⟨h.1, h.2.1, fun j hj => h.2.2 j (by omega)⟩
theorem SC.u {σ : hv_S} {j : Nat} {v : Int32} (hj : 35 ≤ j ∧ j ≤ 37) : SC σ (hv_ui σ 60 j v) := ⟨rfl, fun k' h j' => by rw [ui_1, if_neg (fun z => by omega)], fun j' h => by rw [ui_1, if_neg (fun z => by omega)]⟩
theorem SC.me {σ σ' : hv_S} (h : SC σ σ') : ME σ σ' := ⟨fun k hk j => h.2.1 k (by omega) j, h.2.1 69 (by decide) 0, fun j hj => h.2.2 j (by omega), fun j => by rw [h.1]⟩
theorem RM.ui {D : hD} {hb : hB} {It : hT} {σ : hv_S} {k j : Nat} {v : Int32} (h : RM D hb It σ) (hk : 72 ≤ k ∧ k ≤ 76 ∨ k = 60 ∧ 34 ≤ j ∧ j ≤ 45) : RM D hb It (hv_ui σ k j v) :=
  h.of (ME.ui (by omega) (by omega) (by omega)) (h.2.2.2.1.of (by rw [ui_1, if_neg (fun z => by omega)]) (fun j' => by rw [ui_1, if_neg (fun z => by omega)]) (fun j' => by rw [ui_1, if_neg (fun z => by omega)]))
/-- tenths as they lie -/
def gM (σ : hv_S) (n : Nat) (G : Nat → Nat → Nat) : Prop := ∀ a b, a < n → b < n → σ.1 74 (8 * a + b) = nI (G a b)
theorem gM.congr {σ : hv_S} {n : Nat} {G G' : Nat → Nat → Nat} (h : gM σ n G) (e : ∀ a b, a < n → b < n → G a b = G' a b) : gM σ n G' := fun a b ha hb' => by rw [← e a b ha hb']; exact h a b ha hb'
theorem gM.of {σ σ' : hv_S} {n : Nat} {G : Nat → Nat → Nat} (h : gM σ n G) (e : ∀ j, σ'.1 74 j = σ.1 74 j) : gM σ' n G := fun a b ha hb' => by rw [e]; exact h a b ha hb'
theorem gM.add {σ : hv_S} {n a t x : Nat} {g : Nat → Nat → Nat} (h : gM σ n g) (hn : n ≤ 8) (ha : a < n) (ht : t < n) : gM (hv_ui σ 74 (8 * a + t) (σ.1 74 (8 * a + t) + nI x)) n (gad g a t x) := by
  intro a' b' ha' hb'
  rw [ui_1]
  unfold gad
  by_cases c : a' = a ∧ b' = t
  · obtain ⟨rfl, rfl⟩ := c
    rw [if_pos ⟨rfl, rfl⟩, if_pos ⟨rfl, rfl⟩, h a' b' ha' hb', nI_add]
  · rw [if_neg (fun z => c (by omega)), if_neg c]; exact h a' b' ha' hb'
theorem gM.set {σ : hv_S} {n a : Nat} {g : Nat → Nat → Nat} (h : gM σ n g) (hn : n ≤ 8) (h0 : ∀ b, b < n → g a b = 0) : gM (hv_ui σ 74 (8 * a + a) 10) n (grow g a (pt a 10)) := by
  intro a' b' ha' hb'
  rw [ui_1]
  unfold grow pt
  by_cases c : a' = a
  · subst c
    rw [if_pos rfl]
    by_cases c2 : b' = a'
    · rw [if_pos ⟨rfl, by omega⟩, if_pos c2]; rfl
    · rw [if_neg (fun z => c2 (by omega)), if_neg c2, h a' b' ha' hb', h0 b' hb']
  · rw [if_neg (fun z => c (by omega)), if_neg c]; exact h a' b' ha' hb'
theorem gad_grow {g : Nat → Nat → Nat} {n a t x : Nat} (h0 : ∀ b, b < n → g a b = 0) {r : Nat → Nat} (hr : ∀ b, r b = pt t x b) (a' b' : Nat) (hb' : b' < n) : gad g a t x a' b' = grow g a r a' b' := by
  unfold gad grow
  by_cases c : a' = a
  · subst c
    rw [if_pos rfl, hr, h0 b' hb']
    unfold pt
    by_cases c2 : b' = t
    · rw [if_pos ⟨rfl, c2⟩, if_pos c2, Nat.zero_add]
    · rw [if_neg (fun z => c2 z.2), if_neg c2]
  · rw [if_neg (fun z => c z.1), if_neg c]
theorem gad2_grow {g : Nat → Nat → Nat} {n a t x u y : Nat} (h0 : ∀ b, b < n → g a b = 0) {r : Nat → Nat} (hr : ∀ b, r b = pt t x b + pt u y b) (a' b' : Nat) (hb' : b' < n) : gad (gad g a t x) a u y a' b' = grow g a r a' b' := by
  unfold gad grow
  by_cases c : a' = a
  · subst c
    rw [if_pos rfl, hr]
    have h := h0 b' hb'
    unfold pt
    by_cases c2 : b' = t
    · by_cases c3 : b' = u
      · rw [if_pos ⟨rfl, c3⟩, if_pos ⟨rfl, c2⟩, if_pos c2, if_pos c3, h, Nat.zero_add]
      · rw [if_neg (fun z => c3 z.2), if_pos ⟨rfl, c2⟩, if_pos c2, if_neg c3, h, Nat.zero_add, Nat.add_zero]
    · by_cases c3 : b' = u
      · rw [if_pos ⟨rfl, c3⟩, if_neg (fun z => c2 z.2), if_neg c2, if_pos c3, h]
      · rw [if_neg (fun z => c3 z.2), if_neg (fun z => c2 z.2), if_neg c2, if_neg c3, h]
  · rw [if_neg (fun z => c z.1), if_neg (fun z => c z.1), if_neg c]
theorem sst_t {q : Nat → Nat} {ok : Nat → Bool} {k : Nat} (h : ok k = true) : sst q ok (k + 1) = (match sst q ok k with | none => some k | some b => if q b < q k then some k else some b) := by
  show (if ok k = true then _ else _) = _
  rw [h]; rfl
theorem sst_f {q : Nat → Nat} {ok : Nat → Bool} {k : Nat} (h : ok k = false) : sst q ok (k + 1) = sst q ok k := by
  show (if ok k = true then _ else _) = _
  rw [h]; rfl
def oM (o : Option Nat) : Int32 := match o with
  | none => -1
  | some b => nI b
def toO (P : hPF) (a : Nat) (o : Option Nat) : Nat := match o with
  | none => a
  | some b => tg P a b
theorem isO_ehD (D : hD) (m w a : Nat) : isO (ehD D m w) a = true ↔ D 1 (8 * m + a) = 3 ∧ w < D 2 (8 * m + a) := by
  rw [isO_t]
  unfold ehD
  by_cases c : w < D 2 (8 * m + a) ∧ 2 ≤ D 1 (8 * m + a)
  · rw [if_pos c]
    show D 1 (8 * m + a) = 3 ↔ _
    exact ⟨fun q => ⟨q, c.1⟩, fun q => q.1⟩
  · rw [if_neg c]
    exact ⟨fun q => absurd q (by decide), fun q => absurd ⟨q.2, by omega⟩ c⟩
section SP
variable {l : Launch} {e : hv_Ev} {σ : hv_S} {D : hD} {hb : hB} {It : hT}
theorem y_isOrder {Φ : Int32 → hv_S → Prop} {a m w : Nat} (hR : RM D hb It σ) (hW : hWF D) (hm : m < 3) (ha : a < D 0 0) (hw : w ≤ 100) (h35 : σ.1 60 35 = nI w) (k : Φ (bI (isO (ehD D m w) a)) σ) : hv_CI l (hv_e2 e) 0 m_X10_isOrder [.ref 60, .int (nI a), .int (nI m)] σ Φ := by
  have hn := hW.1
  obtain ⟨g6, g1, g2, g3, g4, g5⟩ := hR.1.2.2.2.2 m a hm ha
  have hd := hW.2.2.2.2.2.2.2.2.2.1 (8 * m + a) (by omega)
  have d1 := hd.1
  have d2 := hd.2.1
  refine B_X10_isOrder _ _ ?_
  rw [cellM, nI_clamp (by omega), g1, g2, h35, nI_leI (by omega) (by omega), ne_eq, show nI (D 1 (8 * m + a)) = 3 ↔ D 1 (8 * m + a) = 3 from nI_eq (b := 3) (by omega) (by decide)]
  have hv : vp_in (nI (8 * m + a)) 24 := vp_in_nI (by omega) (by decide)
  have no : ¬ (D 1 (8 * m + a) = 3 ∧ w < D 2 (8 * m + a)) → Φ 0 σ := fun q => by
    rw [show isO (ehD D m w) a = false by
      cases c : isO (ehD D m w) a with
      | false => rfl
      | true => exact absurd ((isO_ehD D m w a).mp c) q] at k
    exact k
  refine ⟨hv, fun q => no (fun z => q z.1), fun q => ⟨hv, fun q2 => no (fun z => by omega), fun q2 => ?_⟩⟩
  rw [(isO_ehD D m w a).mpr ⟨q, by omega⟩] at k
  exact k
theorem y_surestOf {Φ : Int32 → hv_S → Prop} {a m : Nat} (hR : RM D hb It σ) (hW : hWF D) (hm : m < 3) (ha : a < D 0 0) (k : ∀ σ', BE σ σ' → RM D hb It σ' → Φ (oM (bld (pfD D hb m) a)) σ') : hv_CI l (hv_e2 e) 8 m_X10_surestOf [.ref 60, .int (nI a), .int (nI m)] σ Φ := by
  have hn := hW.1
  have hsu : ∀ c, c < 24 → D 6 c ≤ 10 := fun c hc => (hW.2.2.2.2.2.2.2.2.2.1 c hc).2.2.2.1
  refine B_X10_surestOf _ _ ?_
  suffices ∀ d i σ', i + d = D 0 0 → BE σ σ' → RM D hb It σ' → L_X10_surestOf_5 l e Φ (nI a) (nI m) (oM (sst (fun b => D 6 (8 * m + b)) (fun b => decide (b ≠ a) && !bar D hb m a b) i)) (nI i) σ' by exact this (D 0 0) 0 σ (by omega) (BE.refl σ) hR
  intro d
  induction d with
  | zero =>
    intro i σ' hi hE hR'
    have hin : i = D 0 0 := by omega
    subst hin
    exact B_X10_surestOf_5 _ _ _ _ ⟨fun _ => k σ' hE hR', fun q => absurd (by rw [hR'.1.1]; exact nI_le (Nat.le_refl _) (by omega)) q⟩
  | succ d ih =>
    intro i σ' hi hE hR'
    refine B_X10_surestOf_5 _ _ _ _ ⟨fun q => absurd q (by rw [hR'.1.1]; exact nI_ge (by omega) (by omega)), fun _ => ?_⟩
    rw [nI_1, nI_eq (by omega) (by omega)]
    refine ⟨fun q => ?_, fun q => y_isBar hR' hW hm ha (show i < D 0 0 by omega) (fun σ2 hE2 hR2 => ⟨fun q2 => ?_, fun q2 => ?_⟩)⟩
    · have := ih (i + 1) σ' (by omega) hE hR'
      rw [sst_f (by simp [q])] at this
      exact this
    · have q3 : bar D hb m a i = true := by
        cases c : bar D hb m a i with
        | true => rfl
        | false => exact absurd (by rw [c]; rfl) q2
      have := ih (i + 1) σ2 (by omega) (hE.trans hE2) hR2
      rw [sst_f (by simp [q3])] at this
      exact this
    · have q3 := (bI_0 _).mp q2
      have es := sst_t (q := fun b => D 6 (8 * m + b)) (ok := fun b => decide (b ≠ a) && !bar D hb m a b) (k := i) (by simp [q, q3])
      have := ih (i + 1) σ2 (by omega) (hE.trans hE2) hR2
      cases hs : sst (fun b => D 6 (8 * m + b)) (fun b => decide (b ≠ a) && !bar D hb m a b) i with
      | none =>
        rw [hs] at es
        rw [es] at this
        exact ⟨fun _ => this, fun z => absurd (by decide) z⟩
      | some b =>
        rw [hs] at es
        have hbi := sst_ok hs
        have hb8 : b < D 0 0 := by omega
        refine ⟨fun z => absurd z (nI_pos (by omega)), fun _ => ?_⟩
        show vp_in ((8 * nI m) + nI i) 24 ∧ (vp_in ((8 * nI m) + nI b) 24 ∧ (((σ2.1 66 (((8 * nI m) + nI i).toNatClampNeg)) ≤ (σ2.1 66 (((8 * nI m) + nI b).toNatClampNeg)) → _) ∧ (¬ (σ2.1 66 (((8 * nI m) + nI i).toNatClampNeg)) ≤ (σ2.1 66 (((8 * nI m) + nI b).toNatClampNeg)) → _)))
        have h1 := hsu (8 * m + i) (by omega)
        have h2 := hsu (8 * m + b) (by omega)
        rw [cellM, cellM, nI_clamp (by omega), nI_clamp (by omega), (hR2.1.2.2.2.2 m i hm (by omega)).1, (hR2.1.2.2.2.2 m b hm hb8).1, nI_leI (by omega) (by omega)]
        refine ⟨vp_in_nI (by omega) (by decide), vp_in_nI (by omega) (by decide), fun z => ?_, fun z => ?_⟩
        · rw [es] at this
          have e2 : (match some b with | none => some i | some b => if D 6 (8 * m + b) < D 6 (8 * m + i) then some i else some b) = some b := if_neg (by omega)
          rw [e2] at this
          exact this
        · rw [es] at this
          have e2 : (match some b with | none => some i | some b => if D 6 (8 * m + b) < D 6 (8 * m + i) then some i else some b) = some i := if_pos (by omega)
          rw [e2] at this
          exact this
theorem y_hands {Φ : hv_S → Prop} {a m x : Nat} {o : Option Nat} {g : Nat → Nat → Nat} (hR : RM D hb It σ) (hW : hWF D) (hm : m < 3) (ha : a < D 0 0) (ho : ∀ b, o = some b → b < D 0 0) (hg : gM σ (D 0 0) g) (k : ∀ σ', SB σ σ' → RM D hb It σ' → gM σ' (D 0 0) (gad g a (toO (pfD D hb m) a o) x) → Φ σ') :
    hv_CV l (hv_e2 e) 8 m_X10_hands [.ref 60, .int (nI a), .int (oM o), .int (nI m), .int (nI x)] σ Φ := by
  have hn := hW.1
  have self : ∀ σ1, SB σ σ1 → RM D hb It σ1 → gM σ1 (D 0 0) g → toO (pfD D hb m) a o = a → L_X10_hands_14 l e Φ (nI a) (nI x) σ1 := fun σ1 h1 hR1 hg1 ht => by
    refine B_X10_hands_14 _ _ ?_
    rw [cellM, nI_clamp (by omega)]
    have hv : vp_in (nI (8 * a + a)) 64 := vp_in_nI (by omega) (by decide)
    exact ⟨hv, hv, k _ (h1.trans SB.u) (hR1.ui (Or.inl (by decide))) (by rw [ht]; exact hg1.add hn ha ha)⟩
  cases o with
  | none => exact B_X10_hands _ _ _ _ ⟨fun _ => self σ (SB.refl σ) hR hg rfl, fun z => absurd (by show (-1 : Int32) < 0; decide) z⟩
  | some b =>
    have hb8 := ho b rfl
    refine B_X10_hands _ _ _ _ ⟨fun z => absurd z (nI_pos (by omega)), fun _ => y_isBar hR hW hm ha hb8 (fun σ1 hE hR1 => ?_)⟩
    have hg1 : gM σ1 (D 0 0) g := hg.of (fun j => hE.2.1 74 (by decide) j)
    rw [bI_0]
    refine ⟨fun q => ?_, fun q => self σ1 hE.sb hR1 hg1 ?_⟩
    · show vp_in ((8 * nI a) + nI b) 64 ∧ (vp_in ((8 * nI a) + nI b) 64 ∧ Φ (hv_ui σ1 74 (((8 * nI a) + nI b).toNatClampNeg) ((σ1.1 74 (((8 * nI a) + nI b).toNatClampNeg)) + nI x)))
      rw [cellM, nI_clamp (by omega)]
      have hv : vp_in (nI (8 * a + b)) 64 := vp_in_nI (by omega) (by decide)
      have et : toO (pfD D hb m) a (some b) = b := by
        show (if bar D hb m a b = true then a else b) = b
        rw [q]; rfl
      exact ⟨hv, hv, k _ (hE.sb.trans SB.u) (hR1.ui (Or.inl (by decide))) (by rw [et]; exact hg1.add hn ha hb8)⟩
    · show (if bar D hb m a b = true then a else b) = a
      have q2 : bar D hb m a b = true := by
        cases c : bar D hb m a b with
        | true => rfl
        | false => exact absurd c q
      rw [q2]; rfl
theorem y_findHand {Φ : hv_S → Prop} {a m w : Nat} {g : Nat → Nat → Nat} (hR : RM D hb It σ) (hW : hWF D) (hm : m < 3) (ha : a < D 0 0) (hw : w ≤ 100) (h35 : σ.1 60 35 = nI w) (hg : gM σ (D 0 0) g) (h0 : ∀ b, b < D 0 0 → g a b = 0)
    (k : ∀ σ', SB σ σ' → RM D hb It σ' → gM σ' (D 0 0) (grow g a (G0 (pfD D hb m) (ehD D m w) a)) → Φ σ') : hv_CV l (hv_e2 e) 9 m_X10_findHand [.ref 60, .int (nI a), .int (nI m)] σ Φ := by
  have hn := hW.1
  obtain ⟨g6, g1, g2, g3, g4, g5⟩ := hR.1.2.2.2.2 m a hm ha
  have hd := hW.2.2.2.2.2.2.2.2.2.1 (8 * m + a) (by omega)
  have d1 := hd.1
  have d2 := hd.2.1
  have hv : vp_in (nI (8 * m + a)) 24 := vp_in_nI (by omega) (by decide)
  have hva : vp_in (nI (8 * a + a)) 64 := vp_in_nI (by omega) (by decide)
  have self : ¬ (w < D 2 (8 * m + a) ∧ 2 ≤ D 1 (8 * m + a)) → Φ (hv_ui σ 74 (8 * a + a) 10) := fun q => by
    have e1 : (ehD D m w a).1 = 1 := by unfold ehD; rw [if_neg q]
    have e2 : G0 (pfD D hb m) (ehD D m w) a = pt a 10 := funext (fun b => G0_1 e1 b)
    exact k _ SB.u (hR.ui (Or.inl (by decide))) (by rw [e2]; exact hg.set hn h0)
  refine B_X10_findHand _ _ ?_
  rw [cellM, cellM, nI_clamp (by omega), nI_clamp (by omega), g1, g2, h35, nI_leI (by omega) (by omega), show nI (D 1 (8 * m + a)) = 2 ↔ D 1 (8 * m + a) = 2 from nI_eq (b := 2) (by omega) (by decide), show nI (D 1 (8 * m + a)) = 3 ↔ D 1 (8 * m + a) = 3 from nI_eq (b := 3) (by omega) (by decide), show nI (D 1 (8 * m + a)) = 4 ↔ D 1 (8 * m + a) = 4 from nI_eq (b := 4) (by omega) (by decide), show nI (D 1 (8 * m + a)) = 5 ↔ D 1 (8 * m + a) = 5 from nI_eq (b := 5) (by omega) (by decide)]
  refine ⟨hv, fun q => ⟨hva, self (by omega)⟩, fun q => ⟨hv, fun q2 => ⟨hv, ?_⟩, fun q2 => ⟨hv, ?_⟩, fun q2 => ⟨hv, hv, ?_⟩, fun q2 => ?_, fun n2 n3 n4 n5 => ⟨hva, self (by omega)⟩⟩⟩
  · have hh : ehD D m w a = (D 1 (8 * m + a), D 3 (8 * m + a), D 4 (8 * m + a), D 5 (8 * m + a)) := if_pos ⟨by omega, by omega⟩
    have hk := ehD_W hW hm ha (by omega)
    have e1 : (ehD D m w a).1 = 2 := by rw [hh]; exact q2
    have f3 : D 3 (8 * m + a) < D 0 0 := by omega
    rw [g3, nmM_lt (by omega)]
    refine y_hands (o := some (D 3 (8 * m + a))) (x := 10) hR hW hm ha (fun b hb' => by cases hb'; exact f3) hg (fun σ1 hE hR1 hg1 => k σ1 hE hR1 (hg1.congr (fun a' b' _ hb' => gad_grow h0 (fun b => ?_) a' b' hb')))
    rw [G0_2 e1, hh]; rfl
  · have hh : ehD D m w a = (D 1 (8 * m + a), D 3 (8 * m + a), D 4 (8 * m + a), D 5 (8 * m + a)) := if_pos ⟨by omega, by omega⟩
    have hk := ehD_W hW hm ha (by omega)
    have e1 : (ehD D m w a).1 = 3 := by rw [hh]; exact q2
    have f3 : D 3 (8 * m + a) < D 0 0 := by omega
    have f4 : D 4 (8 * m + a) < D 0 0 := by omega
    rw [g3, nmM_lt (by omega)]
    refine y_isBar hR hW hm ha f3 (fun σ1 hE hR1 => ?_)
    have hg1 : gM σ1 (D 0 0) g := hg.of (fun j => hE.2.1 74 (by decide) j)
    obtain ⟨-, -, -, j3, j4, -⟩ := hR1.1.2.2.2.2 m a hm ha
    rw [bI_0, j3, j4, nmM_lt (by omega), nmM_lt (by omega)]
    refine ⟨fun q3 => ⟨hv, ?_⟩, fun q3 => ⟨hv, ?_⟩⟩
    · refine y_hands (o := some (D 3 (8 * m + a))) (x := 10) hR1 hW hm ha (fun b hb' => by cases hb'; exact f3) hg1 (fun σ2 hE2 hR2 hg2 => k σ2 (hE.sb.trans hE2) hR2 (hg2.congr (fun a' b' _ hb' => gad_grow h0 (fun b => ?_) a' b' hb')))
      rw [G0_3 e1, hh]
      show pt (tg (pfD D hb m) a (if bar D hb m a (D 3 (8 * m + a)) = true then D 4 (8 * m + a) else D 3 (8 * m + a))) 10 b = _
      rw [q3]; rfl
    · have q4 : bar D hb m a (D 3 (8 * m + a)) = true := by
        cases c : bar D hb m a (D 3 (8 * m + a)) with
        | true => rfl
        | false => exact absurd c q3
      refine y_hands (o := some (D 4 (8 * m + a))) (x := 10) hR1 hW hm ha (fun b hb' => by cases hb'; exact f4) hg1 (fun σ2 hE2 hR2 hg2 => k σ2 (hE.sb.trans hE2) hR2 (hg2.congr (fun a' b' _ hb' => gad_grow h0 (fun b => ?_) a' b' hb')))
      rw [G0_3 e1, hh]
      show pt (tg (pfD D hb m) a (if bar D hb m a (D 3 (8 * m + a)) = true then D 4 (8 * m + a) else D 3 (8 * m + a))) 10 b = _
      rw [q4]; rfl
  · have hh : ehD D m w a = (D 1 (8 * m + a), D 3 (8 * m + a), D 4 (8 * m + a), D 5 (8 * m + a)) := if_pos ⟨by omega, by omega⟩
    have hk := ehD_W hW hm ha (by omega)
    have e1 : (ehD D m w a).1 = 4 := by rw [hh]; exact q2
    have f3 : D 3 (8 * m + a) < D 0 0 := by omega
    have f4 : D 4 (8 * m + a) < D 0 0 := by omega
    have f5 : D 5 (8 * m + a) ≤ 9 := by omega
    rw [g3, nmM_lt (by omega), g5]
    refine y_hands (o := some (D 3 (8 * m + a))) (x := D 5 (8 * m + a)) hR hW hm ha (fun b hb' => by cases hb'; exact f3) hg (fun σ1 hE hR1 hg1 => ?_)
    obtain ⟨-, -, -, j3, j4, j5⟩ := hR1.1.2.2.2.2 m a hm ha
    rw [j4, j5, nmM_lt (by omega), show (10 : Int32) = nI 10 from rfl, pk_sub (by omega)]
    refine ⟨hv, hv, y_hands (o := some (D 4 (8 * m + a))) (x := 10 - D 5 (8 * m + a)) hR1 hW hm ha (fun b hb' => by cases hb'; exact f4) hg1 (fun σ2 hE2 hR2 hg2 => k σ2 (hE.trans hE2) hR2 (hg2.congr (fun a' b' _ hb' => gad2_grow h0 (fun b => ?_) a' b' hb')))⟩
    rw [G0_4 e1, hh]; rfl
  · have hh : ehD D m w a = (D 1 (8 * m + a), D 3 (8 * m + a), D 4 (8 * m + a), D 5 (8 * m + a)) := if_pos ⟨by omega, by omega⟩
    have e1 : (ehD D m w a).1 = 5 := by rw [hh]; exact q2
    refine y_surestOf hR hW hm ha (fun σ1 hE hR1 => ?_)
    have hg1 : gM σ1 (D 0 0) g := hg.of (fun j => hE.2.1 74 (by decide) j)
    refine y_hands (o := bld (pfD D hb m) a) (x := 10) hR1 hW hm ha (fun b hb' => (sst_ok hb').1) hg1 (fun σ2 hE2 hR2 hg2 => k σ2 (hE.sb.trans hE2) hR2 (hg2.congr (fun a' b' _ hb' => gad_grow h0 (fun b => ?_) a' b' hb')))
    rw [G0_5 e1]
    cases hbl : bld (pfD D hb m) a with
    | none => rfl
    | some t =>
      have hok := (sst_ok hbl).2
      have hnb : (pfD D hb m).2.2 a t = false := by
        cases c : (pfD D hb m).2.2 a t with
        | false => rfl
        | true => rw [c] at hok; simp at hok
      show pt t 10 b = pt (if (pfD D hb m).2.2 a t = true then a else t) 10 b
      rw [hnb]; rfl
theorem y_findHands {Φ : hv_S → Prop} {m w : Nat} (hR : RM D hb It σ) (hW : hWF D) (hm : m < 3) (hw : w ≤ 100) (k : ∀ σ', SC σ σ' → RM D hb It σ' → σ'.1 60 35 = nI w → gM σ' (D 0 0) (G0 (pfD D hb m) (ehD D m w)) → Φ σ') : hv_CV l (hv_e2 e) 10 m_X10_findHands [.ref 60, .int (nI m), .int (nI w)] σ Φ := by
  have hn := hW.1
  have two : ∀ d i σ', i + d = D 0 0 → SC σ σ' → RM D hb It σ' → σ'.1 60 35 = nI w → gM σ' (D 0 0) (fun a b => if a < i then G0 (pfD D hb m) (ehD D m w) a b else 0) → L_X10_findHands_28 l e Φ (nI m) (nI i) σ' := by
    intro d
    induction d with
    | zero =>
      intro i σ' hi hS hR' h35 hg
      have hin : i = D 0 0 := by omega
      subst hin
      exact B_X10_findHands_28 _ _ ⟨fun _ => k σ' hS hR' h35 (hg.congr (fun a b ha _ => if_pos ha)), fun q => absurd (by rw [hR'.1.1]; exact nI_le (Nat.le_refl _) (by omega)) q⟩
    | succ d ih =>
      intro i σ' hi hS hR' h35 hg
      refine B_X10_findHands_28 _ _ ⟨fun q => absurd q (by rw [hR'.1.1]; exact nI_ge (by omega) (by omega)), fun _ => ?_⟩
      refine y_findHand hR' hW hm (show i < D 0 0 by omega) hw h35 hg (fun b _ => if_neg (Nat.lt_irrefl i)) (fun σ2 hE hR2 hg2 => ?_)
      rw [nI_1]
      refine ih (i + 1) σ2 (by omega) (hS.trans hE.sc) hR2 (by rw [hE.2.2 35 (by decide)]; exact h35) (hg2.congr (fun a b _ _ => ?_))
      unfold grow
      by_cases c : a = i
      · subst c; rw [if_pos rfl, if_pos (by omega)]
      · rw [if_neg c]
        show (if a < i then G0 (pfD D hb m) (ehD D m w) a b else 0) = _
        by_cases c2 : a < i
        · rw [if_pos c2, if_pos (by omega)]
        · rw [if_neg c2, if_neg (by omega)]
  refine B_X10_findHands _ _ ?_
  suffices ∀ d i σ', i + d = 64 → SC σ σ' → RM D hb It σ' → σ'.1 60 35 = nI w → (∀ j, j < i → σ'.1 74 j = 0) → L_X10_findHands_7 l e Φ (nI m) (nI i) σ' by
    exact this 64 0 _ rfl (SC.u (by decide)) (hR.ui (Or.inr (by decide))) (by rw [ui_1, if_pos ⟨rfl, rfl⟩]) (fun j hj => absurd hj (Nat.not_lt_zero j))
  intro d
  induction d with
  | zero =>
    intro i σ' hi hS hR' h35 h74
    have hin : i = 64 := by omega
    subst hin
    exact B_X10_findHands_7 _ _ ⟨fun _ => two (D 0 0) 0 σ' (by omega) hS hR' h35 (fun a b ha hb' => (h74 _ (by omega)).trans (congrArg nI (if_neg (Nat.not_lt_zero a)).symm)), fun q => absurd (nI_le (a := 64) (b := 64) (by decide) (by decide)) q⟩
  | succ d ih =>
    intro i σ' hi hS hR' h35 h74
    refine B_X10_findHands_7 _ _ ⟨fun q => absurd q (nI_ge (a := i) (b := 64) (by omega) (by decide)), fun _ => ⟨vp_in_nI (by omega) (by decide), ?_⟩⟩
    rw [nI_clamp (by omega), nI_1]
    refine ih (i + 1) _ (by omega) (hS.trans SB.u.sc) (hR'.ui (Or.inl (by decide))) (by rw [ui_1, if_neg (fun z => absurd z.1 (by decide))]; exact h35) (fun j hj => ?_)
    rw [ui_1]
    by_cases c : j = i
    · rw [if_pos ⟨rfl, c⟩]
    · rw [if_neg (fun z => c z.2)]; exact h74 j (by omega)
end SP
