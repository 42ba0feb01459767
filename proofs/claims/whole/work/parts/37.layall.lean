-- seekWays, layOrders, layHand, layFirm, lay
theorem mns0 {S : Nat} (hS : S < 2 ^ 32) (T : Nat) : mns S T = 0 ↔ ∀ i, S.testBit i = true → T.testBit i = true := by
  constructor
  · intro h i hi
    have := mns_b hS T i
    rw [h, hi] at this
    simpa using this
  · intro h
    apply Nat.eq_of_testBit_eq
    intro i
    rw [mns_b hS, Nat.zero_testBit]
    cases h1 : S.testBit i with
    | false => rfl
    | true => rw [h i h1]; rfl
theorem sub_and {y O : Nat} : y &&& O = y ↔ ∀ i, y.testBit i = true → O.testBit i = true := by
  constructor
  · intro h i hi
    have : (y &&& O).testBit i = true := by rw [h]; exact hi
    rw [Nat.testBit_and, hi] at this
    simpa using this
  · intro h
    apply Nat.eq_of_testBit_eq
    intro i
    rw [Nat.testBit_and]
    cases h1 : y.testBit i with
    | false => rfl
    | true => rw [h i h1]; rfl
theorem G0_1 {P : hPF} {h : hEH} {a : Nat} (k : (h a).1 = 1) (b : Nat) : G0 P h a b = pt a 10 b := by unfold G0; rw [k]; rfl
theorem G0_2 {P : hPF} {h : hEH} {a : Nat} (k : (h a).1 = 2) (b : Nat) : G0 P h a b = pt (tg P a (h a).2.1) 10 b := by unfold G0; rw [k]; rfl
theorem G0_3 {P : hPF} {h : hEH} {a : Nat} (k : (h a).1 = 3) (b : Nat) : G0 P h a b = pt (tg P a (if P.2.2 a (h a).2.1 then (h a).2.2.1 else (h a).2.1)) 10 b := by unfold G0; rw [k]; rfl
theorem G0_4 {P : hPF} {h : hEH} {a : Nat} (k : (h a).1 = 4) (b : Nat) : G0 P h a b = pt (tg P a (h a).2.1) (h a).2.2.2 b + pt (tg P a (h a).2.2.1) (10 - (h a).2.2.2) b := by unfold G0; rw [k]; rfl
theorem G0_5 {P : hPF} {h : hEH} {a : Nat} (k : (h a).1 = 5) (b : Nat) : G0 P h a b = pt ((bld P a).getD a) 10 b := by unfold G0; rw [k]; rfl
theorem spG.congr {σ : hv_S} {g g' : Nat → Nat → Nat} {B : Nat} (h : spG σ g B) (e : ∀ a b, a < 8 → b < 8 → g a b = g' a b) : spG σ g' B := by
  refine ⟨fun a b ha hb => by rw [← e a b ha hb]; exact h.1 a b ha hb, ?_, fun a ha hq => ?_⟩
  · rw [h.2.1]; exact congrArg nI (msk_ext (fun i hi => by rw [e i i hi hi]))
  · rw [h.2.2 a ha hq]; exact congrArg nI (msk_ext (fun i hi => by rw [e a i ha hi]))
theorem isO_t {h : hEH} {a : Nat} : isO h a = true ↔ (h a).1 = 3 := by unfold isO; simp
theorem isO_f {h : hEH} {a : Nat} : isO h a = false ↔ (h a).1 ≠ 3 := by unfold isO; simp
theorem sst_congr {q : Nat → Nat} {ok ok' : Nat → Bool} : ∀ {n : Nat}, (∀ i, i < n → ok i = ok' i) → sst q ok n = sst q ok' n := by
  intro n
  induction n with
  | zero => intro _; rfl
  | succ n ih =>
    intro h
    unfold sst
    rw [ih (fun i hi => h i (Nat.lt_succ_of_lt hi)), h n (Nat.lt_succ_self n)]
section WC
variable {l : Launch} {e : hv_Ev} {σ : hv_S} {D : hD} {hb : hB} {It : hT} {m : Nat} {h : hEH}
/-- open ways, as the class asks -/
theorem open_iff {y : Nat} (hW : hWF D) (hy : y < 2 ^ 31) : (mns y (msk (fun a => isO h a && !bar D hb m a (h a).2.2.1) (D 0 0)) = 0 ∧ mns (mns (ordM (pfD D hb m) h) y) (msk (fun a => isO h a && !bar D hb m a (h a).2.1) (D 0 0)) = 0) ↔
    (y &&& ordM (pfD D hb m) h = y ∧ ∀ a, a < D 0 0 → isO h a = true → bar D hb m a (nmY h y a) = false) := by
  have hn := hW.1
  have hO31 : ordM (pfD D hb m) h < 2 ^ 32 := Nat.lt_of_lt_of_le (msk_lt _ _) (Nat.pow_le_pow_right (by decide) (show D 0 0 ≤ 32 by omega))
  have ho : ∀ a, (ordM (pfD D hb m) h).testBit a = (decide (a < D 0 0) && isO h a) := fun a => ordM_b _ _ a
  rw [mns0 (by omega), mns0 (mns_lt hO31 y), sub_and]
  constructor
  · rintro ⟨h1, h2⟩
    refine ⟨fun i hi => ?_, fun a ha hoa => ?_⟩
    · have := h1 i hi
      rw [msk_bit] at this
      rw [ho]
      simp only [Bool.and_eq_true] at this ⊢
      exact ⟨this.1, this.2.1⟩
    · unfold nmY
      cases hya : y.testBit a with
      | true =>
        have := h1 a hya
        rw [msk_bit] at this
        simp only [Bool.and_eq_true] at this
        simpa using this.2.2
      | false =>
        have := h2 a (by rw [mns_b hO31, ho, hya]; simp [ha, hoa])
        rw [msk_bit] at this
        simp only [Bool.and_eq_true] at this
        simpa using this.2.2
  · rintro ⟨h1, h2⟩
    refine ⟨fun i hi => ?_, fun i hi => ?_⟩
    · have := h1 i hi
      rw [ho] at this
      simp only [Bool.and_eq_true, decide_eq_true_eq] at this
      have h3 := h2 i this.1 this.2
      unfold nmY at h3
      rw [hi] at h3
      rw [msk_bit]
      have h4 : bar D hb m i (h i).2.2.1 = false := h3
      simp [this.1, this.2, h4]
    · rw [mns_b hO31, ho] at hi
      simp only [Bool.and_eq_true, decide_eq_true_eq, Bool.not_eq_true'] at hi
      have h3 := h2 i hi.1.1 hi.1.2
      unfold nmY at h3
      rw [hi.2] at h3
      rw [msk_bit]
      have h4 : bar D hb m i (h i).2.1 = false := h3
      simp [hi.1.1, hi.1.2, h4]
def bw9 (o : Option Nat) : Int32 := match o with
  | none => 9
  | some z => nI (pop 8 z)
theorem x_seekWays {Φ : hv_S → Prop} {ev : Int32} (hev : ev = 0 ∨ ev = 1) (hR : RX D hb It σ) (hm : m < 3) (hW : hWF D) (hO : ehO D m h) (hB : spB σ (D 0 0) m (ordM (pfD D hb m) h)) (hg : spG σ (gF (pfD D hb m) h) (ordM (pfD D hb m) h))
    (k : ∀ σ', SE σ σ' → spG σ' (gF (pfD D hb m) h) (ordM (pfD D hb m) h) → (ev = 1 → σ'.1 18 9 = nI (cnt (pfD D hb m) h)) → σ'.1 18 10 = oI (bst (pfD D hb m) h) → Φ σ') : hv_CV l (hv_e1 e) 2 m_X5_seekWays [.ref 18, .int ev] σ Φ := by
  have hn := hW.1
  have hO256 : ordM (pfD D hb m) h < 2 ^ 8 := Nat.lt_of_lt_of_le (msk_lt _ _) (Nat.pow_le_pow_right (by decide) hn)
  have hnm : ∀ i, i < D 0 0 → isO h i = true → (σ.1 6 (8 * m + i) = nI (h i).2.1 ∧ (h i).2.1 < 8) ∧ (σ.1 7 (8 * m + i) = nI (h i).2.2.1 ∧ (h i).2.2.1 < 8) := fun i hi ho => by
    obtain ⟨a1, a2⟩ := x_names hR hm hW hO hi ho
    obtain ⟨-, -, o3, o4, -, -⟩ := hO i hi ho
    exact ⟨⟨a1, by omega⟩, ⟨a2, by omega⟩⟩
  refine B_X5_seekWays _ (x_openNames (f := fun a => (h a).2.1) hp_6 hs_6 hR hm hW hB (fun i hi ho => (hnm i hi ho).1) (x_openNames (f := fun a => (h a).2.2.1) hp_7 hs_7 hR hm hW hB (fun i hi ho => (hnm i hi ho).2) ?_))
  have hS0 : SE σ (hv_ui (hv_ui σ 18 9 0) 18 10 (-5)) := ⟨(XE.ui (by decide)).trans (XE.ui (by decide)), fun j hj => by rw [ui_1, ui_1, if_neg (fun z => by omega), if_neg (fun z => by omega)], fun k' hk j => by rw [ui_1, ui_1, if_neg (fun z => by omega), if_neg (fun z => by omega)], rfl⟩
  suffices ∀ d y σ', y + d = ordM (pfD D hb m) h + 1 → SE σ σ' → spG σ' (gF (pfD D hb m) h) (ordM (pfD D hb m) h) → (ev = 1 → σ'.1 18 9 = nI (cntY (pfD D hb m) h y)) → σ'.1 18 10 = oI (bstY (pfD D hb m) h y) →
      L_X5_seekWays_42 l e Φ ev (nI (msk (fun a => isO h a && !bar D hb m a (h a).2.1) (D 0 0))) (nI (msk (fun a => isO h a && !bar D hb m a (h a).2.2.1) (D 0 0))) (bw9 (bstY (pfD D hb m) h y)) (nI y) σ' by
    refine this (ordM (pfD D hb m) h + 1) 0 _ (by omega) hS0 ⟨fun a b ha hb' => ?_, ?_, fun a ha hq => ?_⟩ (fun _ => ?_) ?_
    · rw [ui_1, ui_1, if_neg (fun z => by omega), if_neg (fun z => by omega)]; exact hg.1 a b ha hb'
    · rw [ui_1, ui_1, if_neg (fun z => by omega), if_neg (fun z => by omega)]; exact hg.2.1
    · rw [ui_1, ui_1, if_neg (fun z => by omega), if_neg (fun z => by omega)]; exact hg.2.2 a ha hq
    · rw [ui_1, ui_1, if_neg (fun z => by omega), if_pos ⟨rfl, rfl⟩]; rfl
    · rw [ui_1, if_pos ⟨rfl, rfl⟩]; rfl
  intro d
  induction d with
  | zero =>
    intro y σ' hy hS hg' hc hbw
    have hB' := hB.of hS
    refine B_X5_seekWays_42 _ _ _ _ _ ⟨fun _ => k σ' hS hg' (fun q => ?_) ?_, fun q => absurd ?_ q⟩
    · rw [hc q]; unfold cnt; rw [show y = ordM (pfD D hb m) h + 1 by omega]
    · rw [hbw]; unfold bst; rw [show y = ordM (pfD D hb m) h + 1 by omega]
    · rw [hB'.2.2.2]; exact nI_lt (by omega) (by omega)
  | succ d ih =>
    intro y σ' hy hS hg' hc hbw
    have hB' := hB.of hS
    have hR' := hR.of hS.1
    have hy8 : y < 256 := by omega
    have hp8 := pop_le y 8
    refine B_X5_seekWays_42 _ _ _ _ _ ⟨fun q => absurd q (by rw [hB'.2.2.2]; exact nI_nlt (by omega) (by omega)), fun _ => j_bitCount hy8 ?_⟩
    rw [hB'.2.2.2, mns_I, mns_I, mns_I, nI_1]
    have hopen := open_iff (hb := hb) (m := m) (h := h) (y := y) hW (by omega)
    have hl1 : mns y (msk (fun a => isO h a && !bar D hb m a (h a).2.2.1) (D 0 0)) < 2 ^ 31 := Nat.lt_of_le_of_lt Nat.and_le_left (by omega)
    have hl2 : mns (mns (ordM (pfD D hb m) h) y) (msk (fun a => isO h a && !bar D hb m a (h a).2.1) (D 0 0)) < 2 ^ 31 := Nat.lt_of_le_of_lt Nat.and_le_left (Nat.lt_of_le_of_lt Nat.and_le_left (by omega))
    have hz : ∀ x, x < 2 ^ 31 → (nI x = 0 ↔ x = 0) := fun x hx => nI_eq (b := 0) hx (by decide)
    -- not a way that counts
    have hno : okY (pfD D hb m) h y = false → L_X5_seekWays_42 l e Φ ev (nI (msk (fun a => isO h a && !bar D hb m a (h a).2.1) (D 0 0))) (nI (msk (fun a => isO h a && !bar D hb m a (h a).2.2.1) (D 0 0))) (bw9 (bstY (pfD D hb m) h y)) (nI (y + 1)) σ' := fun q => by
      have e1 : bstY (pfD D hb m) h (y + 1) = bstY (pfD D hb m) h y := by show (if okY (pfD D hb m) h y = true then _ else _) = _; rw [q]; rfl
      have e2 : cntY (pfD D hb m) h (y + 1) = cntY (pfD D hb m) h y := by show cntY (pfD D hb m) h y + (if okY (pfD D hb m) h y = true then 1 else 0) = _; rw [q]; rfl
      have := ih (y + 1) σ' (by omega) hS hg' (by rw [e2]; exact hc) (by rw [e1]; exact hbw)
      rwa [e1] at this
    have hokf : ¬ (y &&& ordM (pfD D hb m) h = y ∧ ∀ a, a < D 0 0 → isO h a = true → bar D hb m a (nmY h y a) = false) → okY (pfD D hb m) h y = false := fun q => bo_f.mpr (fun z => q ⟨z.1, z.2.1⟩)
    refine ⟨fun q => hno (hokf (fun z => q ((hz _ hl1).mpr (hopen.mpr z).1))), fun q1 => ⟨fun q => hno (hokf (fun z => q ((hz _ hl2).mpr (hopen.mpr z).2))), fun q2 => ?_⟩⟩
    have hop := hopen.mp ⟨(hz _ hl1).mp q1, (hz _ hl2).mp q2⟩
    -- the way is tried
    have htry : L_X5_seekWays_106 l e Φ ev (nI (msk (fun a => isO h a && !bar D hb m a (h a).2.1) (D 0 0))) (nI (msk (fun a => isO h a && !bar D hb m a (h a).2.2.1) (D 0 0))) (bw9 (bstY (pfD D hb m) h y)) (nI y) (nI (pop 8 y)) σ' := by
      refine B_X5_seekWays_106 _ _ _ _ _ _ (x_reachAll hR' hm hW hO hB' hg' (by omega) (fun v σ'' hS2 h18 hg'' hv => ?_))
      have hS3 := hS.trans hS2
      rcases hv with ⟨ha, rfl⟩ | ⟨ha, rfl⟩
      · refine ⟨fun _ => ?_, fun q => absurd q (by decide)⟩
        have hok : okY (pfD D hb m) h y = true := bo_t.mpr ⟨hop.1, hop.2, ha⟩
        have e2 : cntY (pfD D hb m) h (y + 1) = cntY (pfD D hb m) h y + 1 := by show cntY (pfD D hb m) h y + (if okY (pfD D hb m) h y = true then 1 else 0) = _; rw [hok]; rfl
        have e1 : bstY (pfD D hb m) h (y + 1) = (match bstY (pfD D hb m) h y with | none => some y | some z => if pop 8 y < pop 8 z then some y else some z) := by show (if okY (pfD D hb m) h y = true then _ else _) = _; rw [hok]; rfl
        have hw9 : ∀ v : Int32, SE σ'' (hv_ui σ'' 18 9 v) := fun v => ⟨XE.ui (by decide), fun j hj => by rw [ui_1, if_neg (fun z => by omega)], fun k' hk j => by rw [ui_1, if_neg (fun z => by omega)], rfl⟩
        have hw10 : ∀ v w : Int32, SE σ'' (hv_ui (hv_ui σ'' 18 9 v) 18 10 w) := fun v w => (hw9 v).trans ⟨XE.ui (by decide), fun j hj => by rw [ui_1, if_neg (fun z => by omega)], fun k' hk j => by rw [ui_1, if_neg (fun z => by omega)], rfl⟩
        have hG9 : ∀ v : Int32, spG (hv_ui σ'' 18 9 v) (gF (pfD D hb m) h) (ordM (pfD D hb m) h) := fun v => ⟨fun a b ha hb' => by rw [ui_1, if_neg (fun z => by omega)]; exact hg''.1 a b ha hb', by rw [ui_1, if_neg (fun z => by omega)]; exact hg''.2.1, fun a ha hq => by rw [ui_1, if_neg (fun z => by omega)]; exact hg''.2.2 a ha hq⟩
        have hG10 : ∀ v w : Int32, spG (hv_ui (hv_ui σ'' 18 9 v) 18 10 w) (gF (pfD D hb m) h) (ordM (pfD D hb m) h) := fun v w => ⟨fun a b ha hb' => by rw [ui_1, if_neg (fun z => by omega)]; exact (hG9 v).1 a b ha hb', by rw [ui_1, if_neg (fun z => by omega)]; exact (hG9 v).2.1, fun a ha hq => by rw [ui_1, if_neg (fun z => by omega)]; exact (hG9 v).2.2 a ha hq⟩
        rw [h18 9, nI_1]
        refine ⟨fun q => ?_, fun q => ?_⟩
        · have e3 : bstY (pfD D hb m) h (y + 1) = bstY (pfD D hb m) h y := by
            rw [e1]
            cases hbz : bstY (pfD D hb m) h y with
            | none =>
              rw [hbz] at q
              exact absurd q (nI_ge (a := pop 8 y) (b := 9) (by omega) (by decide))
            | some z =>
              rw [hbz] at q
              have := (nI_leI (a := pop 8 z) (b := pop 8 y) (by have := pop_le z 8; omega) (by omega)).mp q
              exact if_neg (by omega)
          have := ih (y + 1) (hv_ui σ'' 18 9 (σ'.1 18 9 + 1)) (by omega) (hS3.trans (hw9 _)) (hG9 _) (fun q => by rw [ui_1, if_pos ⟨rfl, rfl⟩, hc q, nI_1, e2]) (by rw [ui_1, if_neg (fun z => by omega), h18 10, hbw, e3])
          rwa [e3] at this
        · have e3 : bstY (pfD D hb m) h (y + 1) = some y := by
            rw [e1]
            cases hbz : bstY (pfD D hb m) h y with
            | none => rfl
            | some z =>
              rw [hbz] at q
              have : ¬ pop 8 z ≤ pop 8 y := fun z2 => q ((nI_leI (a := pop 8 z) (b := pop 8 y) (by have := pop_le z 8; omega) (by omega)).mpr z2)
              exact if_pos (by omega)
          have := ih (y + 1) (hv_ui (hv_ui σ'' 18 9 (σ'.1 18 9 + 1)) 18 10 (nI y)) (by omega) (hS3.trans (hw10 _ _)) (hG10 _ _) (fun q => by rw [ui_1, if_neg (fun z => by omega), ui_1, if_pos ⟨rfl, rfl⟩, hc q, nI_1, e2]) (by rw [ui_1, if_pos ⟨rfl, rfl⟩, e3]; rfl)
          rw [e3] at this
          exact this
      · refine ⟨fun q => absurd rfl q, fun _ => ?_⟩
        have hok : okY (pfD D hb m) h y = false := bo_f.mpr (fun z => ha z.2.2)
        have e1 : bstY (pfD D hb m) h (y + 1) = bstY (pfD D hb m) h y := by show (if okY (pfD D hb m) h y = true then _ else _) = _; rw [hok]; rfl
        have e2 : cntY (pfD D hb m) h (y + 1) = cntY (pfD D hb m) h y := by show cntY (pfD D hb m) h y + (if okY (pfD D hb m) h y = true then 1 else 0) = _; rw [hok]; rfl
        have := ih (y + 1) σ'' (by omega) hS3 hg'' (fun q => by rw [h18 9, e2]; exact hc q) (by rw [h18 10, e1]; exact hbw)
        rw [e1] at this
        rw [nI_1]
        exact this
    refine ⟨fun _ => htry, fun q0 => ⟨fun q => ?_, fun _ => htry⟩⟩
    -- too many second names: it can't be better
    have e3 : bstY (pfD D hb m) h (y + 1) = bstY (pfD D hb m) h y := by
      show (if okY (pfD D hb m) h y = true then _ else _) = _
      cases hok : okY (pfD D hb m) h y with
      | false => rfl
      | true =>
        rw [if_pos rfl]
        cases hbz : bstY (pfD D hb m) h y with
        | none =>
          rw [hbz] at q
          exact absurd q (nI_ge (a := pop 8 y) (b := 9) (by omega) (by decide))
        | some z =>
          rw [hbz] at q
          have := (nI_leI (a := pop 8 z) (b := pop 8 y) (by have := pop_le z 8; omega) (by omega)).mp q
          exact if_neg (by omega)
    have := ih (y + 1) σ' (by omega) hS hg' (fun q => absurd (q0.symm.trans q) (by decide)) (by rw [e3]; exact hbw)
    rwa [e3] at this
end WC
