-- THE REFERENCE: how likely it is right
theorem sbS_sum (V : Nat) : ∀ i, i ≤ 8 → ∀ f : Nat → Int, sbS V i f = sumI (fun s => if mns s V = 0 then f s else 0) (2 ^ i) := by
  intro i
  induction i with
  | zero =>
    intro _ f
    show f 0 = sumI _ 1
    show f 0 = 0 + (if mns 0 V = 0 then f 0 else 0)
    rw [if_pos (by unfold mns; exact Nat.zero_and _)]; omega
  | succ i ih =>
    intro hi f
    have p8 : 2 ^ (i + 1) ≤ 2 ^ 8 := Nat.pow_le_pow_right (by decide) hi
    have pw : 2 ^ (i + 1) = 2 ^ i + 2 ^ i := by rw [Nat.pow_succ _ _, Nat.mul_two]
    rw [pw, sumI_app]
    have hbit : ∀ s, s < 2 ^ i → (mns (2 ^ i + s) V = 0 ↔ V.testBit i = true ∧ mns s V = 0) := fun s hs => by
      have eo : 2 ^ i + s = 2 ^ i ||| s := by
        have := Nat.two_pow_add_eq_or_of_lt hs 1
        rw [Nat.mul_one] at this; exact this
      rw [mns0 (by omega), mns0 (by omega), eo]
      constructor
      · intro h
        refine ⟨h i (by rw [Nat.testBit_or, tb_2]; simp), fun j hj => h j (by rw [Nat.testBit_or, hj]; simp)⟩
      · rintro ⟨h1, h2⟩ j hj
        rw [Nat.testBit_or, tb_2] at hj
        by_cases c : i = j
        · subst c; exact h1
        · exact h2 j (by simpa [c] using hj)
    show (if V.testBit i = true then sbS V i f + sbS V i (fun x => f (2 ^ i + x)) else sbS V i f) = _
    by_cases c : V.testBit i = true
    · rw [if_pos c, ih (by omega) f, ih (by omega) (fun x => f (2 ^ i + x))]
      congr 1
      refine sumI_congr (fun s hs => ?_)
      by_cases q : mns s V = 0
      · rw [if_pos q, if_pos ((hbit s hs).mpr ⟨c, q⟩)]
      · rw [if_neg q, if_neg (fun z => q ((hbit s hs).mp z).2)]
    · rw [if_neg c, ih (by omega) f]
      have : sumI (fun j => if mns (2 ^ i + j) V = 0 then f (2 ^ i + j) else 0) (2 ^ i) = 0 := by
        rw [sumI_congr (g := fun _ => 0) (fun s hs => if_neg (fun z => c ((hbit s hs).mp z).1)), sumI_zero]
      rw [this]; omega
/-- nothing but what is likely -/
def FE (σ σ' : hv_S) : Prop := σ'.1 = σ.1 ∧ ∀ p j, (p ≠ 60 ∨ j ≤ 41) → σ'.2.1 p j = σ.2.1 p j
theorem FE.refl (σ : hv_S) : FE σ σ := ⟨rfl, fun _ _ _ => rfl⟩
theorem FE.trans {σ σ' σ'' : hv_S} (h : FE σ σ') (h2 : FE σ' σ'') : FE σ σ'' := ⟨h2.1.trans h.1, fun p j hp => (h2.2 p j hp).trans (h.2 p j hp)⟩
theorem FE.u {σ : hv_S} {j : Nat} {v : Int64} (hj : 41 < j) : FE σ (hv_ul σ 60 j v) := ⟨rfl, fun p j' hp => by rw [ul_1, if_neg (fun z => by omega)]⟩
theorem FE.me {σ σ' : hv_S} (h : FE σ σ') : ME σ σ' := ⟨fun _ _ _ => by rw [h.1], by rw [h.1], fun _ _ => by rw [h.1], fun j => h.2 82 j (Or.inl (by decide))⟩
theorem RM.fe {D : hD} {hb : hB} {It : hT} {σ σ' : hv_S} (h : RM D hb It σ) (e : FE σ σ') : RM D hb It σ' := h.of e.me (h.2.2.2.1.of (by rw [e.1]) (fun _ => by rw [e.1]) (fun _ => by rw [e.1]))
theorem vmI.fe {σ σ' : hv_S} {n : Nat} {W : Int} {v : Nat → Int} (h : vmI σ n W v) (e : FE σ σ') : vmI σ' n W v := ⟨by rw [e.2 60 40 (by decide)]; exact h.1, fun a ha => by rw [e.2 75 a (Or.inl (by decide))]; exact h.2.1 a ha, h.2.2⟩
def rgI (D : hD) (m : Nat) (v : Nat → Int) (σ : hv_S) : Prop := σ.2.1 60 42 = lZ (chn D m v) ∧ σ.2.1 60 43 = lZ (10 ^ pop 8 (vts D v))
section FR
variable {l : Launch} {e : hv_Ev} {σ : hv_S} {D : hD} {hb : hB} {It : hT}
theorem y_findRight {Φ : hv_S → Prop} {m : Nat} {W : Int} {v : Nat → Int} (hR : RM D hb It σ) (hW : hWF D) (hm : m < 3) (hv : vmI σ (D 0 0) W v) (k : ∀ σ', FE σ σ' → RM D hb It σ' → rgI D m v σ' → Φ σ') : hv_CV l (hv_e2 e) 2 m_X10_findRight [.ref 60, .int (nI m)] σ Φ := by
  have hn := hW.1
  have p8 : 2 ^ D 0 0 ≤ 2 ^ 8 := Nat.pow_le_pow_right (by decide) hn
  have hsu : ∀ c, c < 24 → D 6 c ≤ 10 := fun c hc => (hW.2.2.2.2.2.2.2.2.2.1 c hc).2.2.2.1
  have hV : vts D v < 2 ^ D 0 0 := msk_lt _ _
  have pV := pop_le (vts D v) 8
  refine B_X10_findRight _ (y_speaking hR hW hv (y_ones (by omega) ?_))
  obtain ⟨V, eV⟩ : ∃ V, V = vts D v := ⟨_, rfl⟩
  rw [← eV] at hV pV ⊢
  -- a product
  obtain ⟨f, ef⟩ : ∃ f : Nat → Int, f = fun s => if mns s V = 0 then (if dcd D v s = true then prd (fun a => D 6 (8 * m + a)) V s (D 0 0) else 0) else 0 := ⟨_, rfl⟩
  have hfin : sumI f (2 ^ D 0 0) = chn D m v := by
    rw [ef]
    unfold chn
    show _ = sbS (vts D v) (D 0 0) (fun x => if dcd D v x = true then prd (fun a => D 6 (8 * m + a)) (vts D v) x (D 0 0) else 0)
    rw [← eV]
    exact (sbS_sum V (D 0 0) hn _).symm
  have loop : ∀ d s σ', s + d = 2 ^ D 0 0 → FE σ σ' → σ'.2.1 60 43 = lZ (10 ^ pop 8 V) → σ'.2.1 60 42 = lZ (sumI f s) → L_X10_findRight_45 l e Φ (nI m) (nI V) (nI s) σ' := by
    intro d
    induction d with
    | zero =>
      intro s σ' hs hF h43 h42
      have hs2 : s = 2 ^ D 0 0 := by omega
      have hR' := hR.fe hF
      refine B_X10_findRight_45 _ _ _ ⟨fun _ => k σ' hF hR' ⟨by rw [h42, hs2, hfin], by rw [← eV]; exact h43⟩, fun q => absurd (by rw [y_two hR' hW, hs2]; exact nI_le (Nat.le_refl _) (by omega)) q⟩
    | succ d ih =>
      intro s σ' hs hF h43 h42
      have hR' := hR.fe hF
      have eS : sumI f (s + 1) = sumI f s + f s := rfl
      have hmn : mns s V < 2 ^ 8 := mns_lt (by omega) _
      have skip : f s = 0 → L_X10_findRight_45 l e Φ (nI m) (nI V) (nI (s + 1)) σ' := fun q => ih (s + 1) σ' (by omega) hF h43 (by rw [eS, q, Int.add_zero]; exact h42)
      refine B_X10_findRight_45 _ _ _ ⟨fun q => absurd q (by rw [y_two hR' hW]; exact nI_ge (by omega) (by omega)), fun _ => ?_⟩
      rw [mns_I, nI_1]
      refine ⟨fun q => skip (by rw [ef]; exact if_neg (fun c => q (by rw [c]; rfl))), fun q => y_decides hR' hW (hv.fe hF) (by omega) ?_⟩
      have q1 : mns s V = 0 := (nI_eq (b := 0) (by omega) (by decide)).mp q
      rw [ne_eq, bI_0]
      refine ⟨fun q2 => ?_, fun q2 => skip (by rw [ef]; show (if mns s V = 0 then (if dcd D v s = true then _ else 0) else 0) = 0; rw [q2, if_pos q1]; rfl)⟩
      have q3 : dcd D v s = true := by simpa using q2
      suffices ∀ g a, a + g = D 0 0 → L_X10_findRight_80 l e Φ (nI m) (nI V) (nI s) (lZ (prd (fun a => D 6 (8 * m + a)) V s a)) (nI a) σ' by exact this (D 0 0) 0 (by omega)
      intro g
      induction g with
      | zero =>
        intro a ha
        have han : a = D 0 0 := by omega
        refine B_X10_findRight_80 _ _ _ _ _ ⟨fun _ => ?_, fun q => absurd (by rw [hR'.1.1, han]; exact nI_le (Nat.le_refl _) (by omega)) q⟩
        rw [nI_1]
        refine ih (s + 1) _ (by omega) (hF.trans (FE.u (by decide))) (by rw [ul_1, if_neg (by decide)]; exact h43) ?_
        have ff : f s = prd (fun a => D 6 (8 * m + a)) V s a := by
          rw [ef, han]; show (if mns s V = 0 then (if dcd D v s = true then _ else 0) else 0) = _
          rw [if_pos q1, if_pos q3]
        rw [ul_1, if_pos ⟨rfl, rfl⟩, h42, lZ_add, eS, ff]
      | succ g ihg =>
        intro a ha
        have hth := ihg (a + 1) (by omega)
        have eP : prd (fun a => D 6 (8 * m + a)) V s (a + 1) = if V.testBit a = true then prd (fun a => D 6 (8 * m + a)) V s a * ((if s.testBit a = true then D 6 (8 * m + a) else 10 - D 6 (8 * m + a) : Nat) : Int) else prd (fun a => D 6 (8 * m + a)) V s a := rfl
        have hs6 := hsu (8 * m + a) (by omega)
        have h66 := (hR'.1.2.2.2.2 m a hm (by omega)).1
        have hv24 : vp_in (nI (8 * m + a)) 24 := vp_in_nI (by omega) (by decide)
        refine B_X10_findRight_80 _ _ _ _ _ ⟨fun q => absurd q (by rw [hR'.1.1]; exact nI_ge (by omega) (by omega)), fun _ => y_has (by omega) (by omega) ?_⟩
        rw [bI_0, nI_1]
        refine ⟨fun c => ?_, fun c => y_has (by omega) (by omega) ?_⟩
        · rw [eP, if_neg (by rw [c]; decide)] at hth; exact hth
        · have c1 : V.testBit a = true := by simpa using c
          rw [if_pos c1] at eP
          rw [bI_0, cellM, nI_clamp (by omega), h66]
          refine ⟨fun c2 => ⟨hv24, fun z hz => ?_⟩, fun c2 => ⟨hv24, ?_⟩⟩
          · rw [if_neg (by rw [c2]; decide)] at eP
            rw [show (10 : Int32) - nI (D 6 (8 * m + a)) = nI (10 - D 6 (8 * m + a)) from pk_sub (a := 10) (by omega), nI_lZ (by omega), lZ_mul, ← eP] at hz
            rw [hz]; exact hth
          · have c3 : s.testBit a = true := by simpa using c2
            rw [if_pos c3] at eP
            rw [nI_lZ (by omega), lZ_mul, ← eP]; exact hth
  suffices ∀ d j σ', j + d = pop 8 V → FE σ σ' → σ'.2.1 60 43 = lZ (10 ^ j) → L_X10_findRight_16 l e Φ (nI m) (nI V) (nI d) σ' by
    exact this (pop 8 V) 0 _ (Nat.zero_add _) (FE.u (by decide)) (by rw [ul_1, if_pos ⟨rfl, rfl⟩]; rfl)
  intro d
  induction d with
  | zero =>
    intro j σ' hj hF h43
    refine B_X10_findRight_16 _ _ _ ⟨fun _ => loop (2 ^ D 0 0) 0 _ (by omega) (hF.trans (FE.u (by decide))) ?_ ?_, fun q => absurd (by decide) q⟩
    · rw [ul_1, if_neg (by decide), h43, show j = pop 8 V by omega]
    · rw [ul_1, if_pos ⟨rfl, rfl⟩]; rfl
  | succ d ih =>
    intro j σ' hj hF h43
    refine B_X10_findRight_16 _ _ _ ⟨fun q => absurd q (nI_ge (a := 0) (b := d + 1) (by omega) (by omega)), fun _ => ?_⟩
    rw [nI_m1]
    refine ih (j + 1) _ (by omega) (hF.trans (FE.u (by decide))) ?_
    rw [ul_1, if_pos ⟨rfl, rfl⟩, h43, show (10 : Int64) = lZ 10 from rfl, lZ_mul, Int.pow_succ]
-- each by itself
noncomputable def aloV (D : hD) (a : Nat) : Int := if a < D 0 0 ∧ 0 < D 0 3 then 1 else 0
theorem GX_alone (hW : hWF D) {m w : Nat} (hm : m < 3) {a b : Nat} (ha : a < D 0 0) : GX D hb m w 255 none a b = pt a 10 b := by
  have hn := hW.1
  have h1 : ∀ a, a < D 0 0 → (hL D m w 255 none a).1 = 1 := fun a ha => by
    have hb8 : (255 : Nat).testBit a = true := by
      rw [show (255 : Nat) = 2 ^ 8 - 1 from rfl, tb_full]; simp; omega
    show (ehS 255 (ehD D m w) a).1 = 1
    unfold ehS; rw [if_pos hb8]
  have hO : isO (hL D m w 255 none) a = false := isO_f.mpr (by rw [h1 a ha]; decide)
  have h0 : G0 (pfD D hb m) (hL D m w 255 none) a b = pt a 10 b := G0_1 (h1 a ha) b
  unfold GX GG
  by_cases c : D 0 6 = 0
  · rw [if_pos c]; exact h0
  · rw [if_neg c]
    cases hbs : bst (pfD D hb m) (hL D m w 255 none) with
    | none => exact h0
    | some y => show GW _ _ y a b = _; unfold GW; rw [hO]; exact h0
theorem alo_prp (hW : hWF D) {m w : Nat} (hm : m < 3) : prp 1 (aloV D) (cnV D hb m w 255 none).1 (cnV D hb m w 255 none).2 := by
  have hn := hW.1
  have hR : ∀ a, a < D 0 0 → hrd (D 0 0) (GX D hb m w 255 none) a = true := fun a ha => bo_t.mpr ⟨0, by
    show 0 < GX D hb m w 255 none a a
    rw [GX_alone hW hm ha]; unfold pt; rw [if_pos rfl]; decide⟩
  have hV : isV (D 0 0) (GX D hb m w 255 none) (D 0 3) 10 (fun a => aloV D a * 10) := by
    refine ⟨by decide, by decide, fun _ => 1, fun a ha _ => ?_, fun r hr _ => ?_, fun a => ?_⟩
    · rw [GX_alone hW hm ha]; unfold pt; rw [if_pos rfl]; show (0 : Int) ≤ 1 ∧ (1 : Int) * ((10 : Nat) : Int) ≤ 8 * 10; decide
    · rw [sumI_one (k := r) hr (fun c hc hne => by
        rw [if_pos (hR c hc), if_neg hne, GX_alone hW hm hc]
        unfold pt; rw [if_neg (fun z => hne z.symm)]; rfl)]
      rw [if_pos (hR r hr), if_pos rfl]; rfl
    · show (if a < D 0 0 ∧ 0 < D 0 3 then (1 : Int) else 0) * 10 = if a < D 0 0 ∧ hrd (D 0 0) (GX D hb m w 255 none) a = true then min (1 * (GX D hb m w 255 none a a : Int)) ((D 0 3 : Int) * 10) else 0
      by_cases c : a < D 0 0
      · have e10 : GX D hb m w 255 none a a = 10 := by rw [GX_alone hW hm c]; unfold pt; rw [if_pos rfl]
        rw [if_pos (⟨c, hR a c⟩ : a < D 0 0 ∧ hrd (D 0 0) (GX D hb m w 255 none) a = true), e10]
        by_cases c2 : 0 < D 0 3
        · rw [if_pos ⟨c, c2⟩]; omega
        · rw [if_neg (fun z => c2 z.2)]; omega
      · rw [if_neg (fun z => c z.1), if_neg (fun z => c z.1)]; rfl
  obtain ⟨h1, h2, h3⟩ := (cnV_of hW hm gtW0 hV).2
  refine ⟨by decide, h2, fun a => ?_⟩
  have := h3 a
  have : aloV D a * 10 * (cnV D hb m w 255 none).1 = (cnV D hb m w 255 none).2 a * 10 := this
  have e1 : aloV D a * 10 * (cnV D hb m w 255 none).1 = aloV D a * (cnV D hb m w 255 none).1 * 10 := by grind
  omega
theorem y_findAlone {Φ : hv_S → Prop} (hR : RM D hb It σ) (hW : hWF D) (k : ∀ σ', ME σ σ' → RM D hb It σ' → vmI σ' (D 0 0) 1 (aloV D) → Φ σ') : hv_CV l (hv_e2 e) 0 m_X10_findAlone [.ref 60] σ Φ := by
  have hn := hW.1
  have hcap : D 0 3 ≤ 999 := hW.2.2.2.1
  refine B_X10_findAlone ?_
  suffices ∀ d i σ', i + d = D 0 0 → σ'.1 = σ.1 → (∀ j, σ'.2.1 82 j = σ.2.1 82 j) → σ'.2.1 60 40 = 1 → (∀ a, a < i → σ'.2.1 75 a = lZ (aloV D a)) → L_X10_findAlone_7 l e Φ (nI i) σ' by
    exact this (D 0 0) 0 _ (by omega) rfl (fun j => by rw [ul_1, if_neg (fun z => absurd z.1 (by decide))]) (by rw [ul_1, if_pos ⟨rfl, rfl⟩]) (fun a ha => absurd ha (Nat.not_lt_zero a))
  intro d
  induction d with
  | zero =>
    intro i σ' hi h1 h82 h60 h75
    have hin : i = D 0 0 := by omega
    subst hin
    have hM : ME σ σ' := ⟨fun _ _ _ => by rw [h1], by rw [h1], fun _ _ => by rw [h1], h82⟩
    have hR' := hR.of hM (hR.2.2.2.1.of (by rw [h1]) (fun _ => by rw [h1]) (fun _ => by rw [h1]))
    refine B_X10_findAlone_7 _ ⟨fun _ => k σ' hM hR' ⟨h60, h75, by decide, by decide, fun a => ?_⟩, fun q => absurd (by rw [hR'.1.1]; exact nI_le (Nat.le_refl _) (by omega)) q⟩
    unfold aloV; split <;> decide
  | succ d ih =>
    intro i σ' hi h1 h82 h60 h75
    have h0 : σ'.1 60 0 = nI (D 0 0) := by rw [h1]; exact hR.1.1
    have h19 : σ'.1 60 19 = nI (D 0 3) := by rw [h1]; exact hR.2.2.1.2.1
    refine B_X10_findAlone_7 _ ⟨fun q => absurd q (by rw [h0]; exact nI_ge (by omega) (by omega)), fun _ => ?_⟩
    rw [h19, nI_clamp (by omega), nI_1, show nI (D 0 3) ≤ 0 ↔ D 0 3 ≤ 0 from nI_leI (b := 0) (by omega) (by decide)]
    have hv : vp_in (nI i) 8 := vp_in_nI (by omega) (by decide)
    have nx : ∀ v, v = lZ (aloV D i) → L_X10_findAlone_7 l e Φ (nI (i + 1)) (hv_ul σ' 75 i v) := fun v hvv => by
      refine ih (i + 1) _ (by omega) h1 (fun j => by rw [ul_1, if_neg (fun z => absurd z.1 (by decide))]; exact h82 j) (by rw [ul_1, if_neg (fun z => absurd z.1 (by decide))]; exact h60) (fun a ha => ?_)
      rw [ul_1]
      by_cases q : a = i
      · subst q; rw [if_pos ⟨rfl, rfl⟩]; exact hvv
      · rw [if_neg (fun z => q z.2)]; exact h75 a (by omega)
    refine ⟨fun q => ⟨hv, nx 0 ?_⟩, fun q => ⟨hv, nx 1 ?_⟩⟩
    · unfold aloV; rw [if_neg (fun z => by omega)]; rfl
    · unfold aloV; rw [if_pos ⟨by omega, by omega⟩]; rfl
/-- what is likely, in parts of 10 to the power, is cha in parts of 10 to the eighth -/
theorem chn_cha {m : Nat} {W : Int} {v : Nat → Int} (hW : hWF D) (hm : m < 3) {C : Int} {c : Nat → Int} (h : prp W v C c) : chn D m v * 100000000 = cha D m c * 10 ^ pop 8 (vts D v) ∧ (0 : Int) < 10 ^ pop 8 (vts D v) ∧ (10 : Int) ^ pop 8 (vts D v) ≤ 100000000 ∧ 0 ≤ chn D m v ∧ chn D m v ≤ 100000000 := by
  have hp := pop_le (vts D v) 8
  have hb1 := chn_b hW hm v
  have hp1 := (pw10 (pop 8 (vts D v)) hp).1
  have hp0 : (0 : Int) < 10 ^ pop 8 (vts D v) := Int.pow_pos (by decide)
  refine ⟨?_, hp0, hp1, hb1.1, by omega⟩
  rw [← cha_inv h]
  unfold cha
  have e : (10 : Int) ^ (8 - pop 8 (vts D v)) * 10 ^ pop 8 (vts D v) = 100000000 := by
    rw [← Int.pow_add, show 8 - pop 8 (vts D v) + pop 8 (vts D v) = 8 by omega]; rfl
  rw [← e]; grind
theorem y_right {Φ : Int64 → hv_S → Prop} (hR : RM D hb It σ) (hW : hWF D) (x y z : Int32) (k : ∀ σ', RM D hb It σ' → Φ (rtA D hb x y z) σ') : hv_CL l (hv_e2 e) 13 m_X10_right [.ref 60, .int x, .int y, .int z] σ Φ := by
  have hn := hW.1
  have k0 := k σ hR
  unfold rtA at k k0
  refine B_X10_right _ _ _ (y_isMatter x (fun h => ⟨fun _ => ?_, fun q => absurd rfl q⟩) (fun m hm hx => ⟨fun q => absurd q (by decide), fun _ => y_inN (n := 2) (by decide) (by decide) (fun h => ⟨fun _ => ?_, fun q => absurd rfl q⟩) (fun q hq hy => ⟨fun q => absurd q (by decide), fun _ => y_inN (n := 2) (by decide) (by decide) (fun h => ⟨fun q => absurd rfl q, fun _ => ?_⟩) (fun p hp hz => ⟨fun _ => ?_, fun q => absurd q (by decide)⟩)⟩)⟩))
  · rw [if_pos (by rcases out_lt (n := 2) (by decide) h with c | c; exact Or.inl c; exact Or.inr (Or.inl c))] at k0
    exact k0
  · rw [if_pos (by rcases out_lt (n := 1) (by decide) h with c | c; exact Or.inr (Or.inr (Or.inl c)); exact Or.inr (Or.inr (Or.inr (Or.inl c))))] at k0
    exact k0
  · rw [if_pos (by rcases out_lt (n := 1) (by decide) h with c | c; exact Or.inr (Or.inr (Or.inr (Or.inr (Or.inl c)))); exact Or.inr (Or.inr (Or.inr (Or.inr (Or.inr c)))))] at k0
    exact k0
  · subst hx
    subst hy
    subst hz
    have i1 := in_lt (n := 2) (m := m) (by decide) hm
    have i2 := in_lt (n := 1) (m := q) (by decide) hq
    have i3 := in_lt (n := 1) (m := p) (by decide) hp
    rw [if_neg (fun c => by rcases c with c | c | c | c | c | c; exact i1.1 c; exact i1.2 c; exact i2.1 c; exact i2.2 c; exact i3.1 c; exact i3.2 c), nI_toInt (by omega), nI_toInt (by omega), Int.toNat_natCast, Int.toNat_natCast] at k
    have fin : ∀ σ1 W v S, RM D hb It σ1 → vmI σ1 (D 0 0) W v → prp W v (cnV D hb m (D 0 1) S none).1 (cnV D hb m (D 0 1) S none).2 → (if nI q = 1 then 255 else 0) = S → hv_CV l (hv_e2 e) 2 m_X10_findRight [.ref 60, .int (nI m)] σ1 (fun s13 => hv_CL l (hv_e2 e) 1 m_X10_part [.ref 60, .long (s13.2.1 60 42), .long (s13.2.1 60 43), .int (nI p)] s13 (fun v17 s16 => Φ v17 s16)) := fun σ1 W v S hR1 hv1 hpr hS => by
      obtain ⟨c1, c2, c3, c4, c5⟩ := chn_cha hW hm hpr
      refine y_findRight hR1 hW hm hv1 (fun σ2 _ hR2 h2 => ?_)
      rw [h2.1, h2.2]
      refine y_part ⟨c4, by omega⟩ ⟨c2, by omega⟩ (show p ≤ 1 by omega) ?_
      have := k σ2 hR2
      rw [hS] at this
      rw [lwZ_inv p c2 (by decide) c4 (cha_b hW hm _).1 c1]
      exact this
    refine ⟨fun q1 => y_findAlone hR hW (fun σ1 _ hR1 hv1 => fin σ1 1 (aloV D) 255 hR1 hv1 (alo_prp hW hm) ?_), fun q1 => y_now hR hW hm (fun σ1 W v _ hR1 h1 => fin σ1 W v 0 hR1 h1.2.2.2 (uv_c hW hm h1) ?_)⟩
    · have : q = 1 := by
        rcases (show q = 0 ∨ q = 1 by omega) with c | c
        · exact absurd (by rw [c]; rfl) q1
        · exact c
      rw [this]; rfl
    · rw [q1]; rfl
end FR
