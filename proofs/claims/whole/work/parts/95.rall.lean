-- THE REFERENCE: the best way, all hands
theorem sumI_ge1 {f : Nat → Int} {n : Nat} (h : ∀ a, a < n → 0 ≤ f a) : ∀ b, b < n → f b ≤ sumI f n := by
  induction n with
  | zero => intro b hb; exact absurd hb (Nat.not_lt_zero b)
  | succ n ih =>
    intro b hb
    have h1 := sumI_nn (n := n) (f := f) (fun a ha => h a (by omega))
    have h2 := h n (by omega)
    show f b ≤ sumI f n + f n
    by_cases c : b = n
    · subst c; omega
    · have := ih (fun a ha => h a (by omega)) b (by omega)
      omega
theorem rowT_le {n : Nat} {G : Nat → Nat → Nat} {a : Nat} (h : sumI (fun b => (G a b : Int)) n = 10) {b : Nat} (hb : b < n) : G a b ≤ 10 := by
  have := sumI_ge1 (f := fun b => (G a b : Int)) (n := n) (fun _ _ => by omega) b hb
  rw [h] at this
  omega
theorem ehD_WW {D : hD} (hW : hWF D) {hb : hB} {m w : Nat} (hm : m < 3) : ehW (pfD D hb m) (ehD D m w) := by
  have h := hL_W (hb := hb) (w := w) (S := 0) (gt := none) hW hm gtW0
  have hL0 : hL D m w 0 none = ehD D m w := ehS0 _
  rw [hL0] at h; exact h
theorem oM_neg {o : Option Nat} (h : ∀ z, o = some z → z < 2 ^ 31) : oM o < 0 ↔ o = none := by
  cases o with
  | none => exact ⟨fun _ => rfl, fun _ => by decide⟩
  | some z => exact ⟨fun q => absurd q (nI_pos (h z rfl)), fun q => absurd q (by simp)⟩
section FB
variable {l : Launch} {e : hv_Ev} {σ : hv_S} {D : hD} {hb : hB} {It : hT}
theorem y_findBest {Φ : hv_S → Prop} {m w : Nat} (hR : RM D hb It σ) (hW : hWF D) (hm : m < 3) (hw : w ≤ 100) (h35 : σ.1 60 35 = nI w) (hg : gN D hb m w σ)
    (k : ∀ σ', SC σ σ' → RM D hb It σ' → σ'.1 60 35 = nI w → gN D hb m w σ' → σ'.1 60 36 = oM (bst (pfD D hb m) (ehD D m w)) → σ'.1 60 37 = nI (cnt (pfD D hb m) (ehD D m w)) → Φ σ') : hv_CV l (hv_e2 e) 9 m_X10_findBest [.ref 60, .int (nI m)] σ Φ := by
  have hn := hW.1
  have p8 : 2 ^ D 0 0 ≤ 2 ^ 8 := Nat.pow_le_pow_right (by decide) hn
  have hO : ordM (pfD D hb m) (ehD D m w) < 2 ^ D 0 0 := msk_lt _ _
  obtain ⟨O, eO⟩ : ∃ O, O = ordM (pfD D hb m) (ehD D m w) := ⟨_, rfl⟩
  rw [← eO] at hO
  have bY : ∀ {y z : Nat}, bstY (pfD D hb m) (ehD D m w) y = some z → z < 256 := fun {y z} hz => by
    have h1 := (bstY_ok hz).1
    have h2 := (bo_t.mp h1).1
    rw [← eO] at h2
    have h3 : z &&& O ≤ O := Nat.and_le_right
    omega
  have loop : ∀ d y σ', 256 ≤ y + d → y &&& O = y → SC σ σ' → RM D hb It σ' → σ'.1 60 35 = nI w → gN D hb m w σ' → σ'.1 60 36 = oM (bstY (pfD D hb m) (ehD D m w) y) → σ'.1 60 37 = nI (cntY (pfD D hb m) (ehD D m w) y) → L_X10_findBest_49 l e Φ (nI m) (nI O) (nI y) σ' := by
    intro d
    induction d with
    | zero =>
      intro y σ' hd hs
      have h3 : y &&& O ≤ O := Nat.and_le_right
      omega
    | succ d ih =>
      intro y σ' hd hs hS hR' h35' hg' h36 h37
      have hyO : y ≤ O := by have h3 : y &&& O ≤ O := Nat.and_le_right; omega
      -- the next one
      have nx : ∀ σ2, SC σ σ2 → RM D hb It σ2 → σ2.1 60 35 = nI w → gN D hb m w σ2 → σ2.1 60 36 = oM (bstY (pfD D hb m) (ehD D m w) (y + 1)) → σ2.1 60 37 = nI (cntY (pfD D hb m) (ehD D m w) (y + 1)) → L_X10_findBest_103 l e Φ (nI m) (nI O) (nI y) σ2 := fun σ2 hS2 hR2 h352 hg2 h362 h372 => by
        refine B_X10_findBest_103 _ _ _ ?_
        rw [nxt_I (by omega)]
        by_cases c : y = O
        · subst c
          have e0 : nxZ y y = 0 := by
            unfold nxZ
            rw [show y + 4294967296 - y = 2 ^ 32 by omega]
            refine and0_iff.mpr (fun i z => ?_)
            rw [tb_2] at z
            have : 32 = i := of_decide_eq_true z.1
            have h2 := z.2
            rw [← this, tb_hi (n := 8) (by omega) (by decide)] at h2
            exact absurd h2 (by decide)
          rw [e0]
          refine ⟨fun q => absurd rfl q, fun _ => k σ2 hS2 hR2 h352 hg2 ?_ ?_⟩
          · rw [h362]; unfold bst; rw [← eO]
          · rw [h372]; unfold cnt; rw [← eO]
        · obtain ⟨h1, h2, p, h3, h4⟩ := nxt_ok (by omega) hs c
          have hz : nxZ O y ≤ O := by have : nxZ O y &&& O ≤ O := Nat.and_le_right; omega
          obtain ⟨g1, g2⟩ := bst_gap (P := pfD D hb m) (h := ehD D m w) (y := y + 1) (z := nxZ O y) (fun t t1 t2 => by
            cases q : okY (pfD D hb m) (ehD D m w) t with
            | false => rfl
            | true =>
              have q1 := (bo_t.mp q).1
              rw [← eO] at q1
              have := nxt_gap h3 h4 (show y < t by omega) q1
              omega) (by omega)
          refine ⟨fun _ => ih (nxZ O y) σ2 (by omega) h2 hS2 hR2 h352 hg2 (by rw [g1]; exact h362) (by rw [g2]; exact h372), fun q => ?_⟩
          have := (nI_eq (b := 0) (by omega) (by decide)).mp q
          omega
      have nok : okY (pfD D hb m) (ehD D m w) y = false → ∀ σ2, SC σ σ2 → RM D hb It σ2 → σ2.1 60 35 = nI w → gN D hb m w σ2 → σ2.1 60 36 = oM (bstY (pfD D hb m) (ehD D m w) y) → σ2.1 60 37 = nI (cntY (pfD D hb m) (ehD D m w) y) → L_X10_findBest_103 l e Φ (nI m) (nI O) (nI y) σ2 := fun q σ2 a1 a2 a3 a4 a5 a6 => by
        refine nx σ2 a1 a2 a3 a4 (by rw [bstY_f q]; exact a5) ?_
        show _ = nI (cntY (pfD D hb m) (ehD D m w) y + (if okY (pfD D hb m) (ehD D m w) y = true then 1 else 0))
        rw [q]; exact a6
      have sb : ∀ {σ2}, SB σ' σ2 → SC σ σ2 ∧ σ2.1 60 35 = nI w ∧ σ2.1 60 36 = oM (bstY (pfD D hb m) (ehD D m w) y) ∧ σ2.1 60 37 = nI (cntY (pfD D hb m) (ehD D m w) y) := fun h => ⟨hS.trans h.sc, by rw [h.2.2 35 (by decide)]; exact h35', by rw [h.2.2 36 (by decide)]; exact h36, by rw [h.2.2 37 (by decide)]; exact h37⟩
      refine B_X10_findBest_49 _ _ _ (y_putOrders hR' hW hm hw h35' (by omega) hg' (fun q σ2 hS2 hR2 hg2 => ?_) (fun q σ2 hS2 hR2 hg2 => ?_))
      · obtain ⟨s1, s2, s3, s4⟩ := sb hS2
        exact ⟨fun _ => nok (bo_f.mpr (fun z => q z.2.1)) σ2 s1 hR2 s2 hg2 s3 s4, fun z => absurd rfl z⟩
      · obtain ⟨s1, s2, s3, s4⟩ := sb hS2
        refine ⟨fun z => absurd z (by decide), fun _ => y_lostNow hR2.1.1 hn hg2 (fun a b ha hb' => ?_) ?_⟩
        · have := rowT_le (GW_row (P := pfD D hb m) (h := ehD D m w) (ehD_WW hW hm) (y := y) ha) hb'
          omega
        have hl := msk_lt (fun a => !hrd (D 0 0) (GW (pfD D hb m) (ehD D m w) y) a) (D 0 0)
        refine ⟨fun z => nok (bo_f.mpr (fun c => z ?_)) σ2 s1 hR2 s2 (gN_W hg2) s3 s4, fun z => ?_⟩
        · rw [msk_lost0.mpr (show allR (D 0 0) (GW (pfD D hb m) (ehD D m w) y) from c.2.2)]; rfl
        · have hall := msk_lost0.mp ((nI_eq (b := 0) (by omega) (by decide)).mp z)
          have hok : okY (pfD D hb m) (ehD D m w) y = true := bo_t.mpr ⟨by rw [← eO]; exact hs, q, hall⟩
          have e1 := bstY_t hok
          have e2 : cntY (pfD D hb m) (ehD D m w) (y + 1) = cntY (pfD D hb m) (ehD D m w) y + 1 := by
            show cntY (pfD D hb m) (ehD D m w) y + (if okY (pfD D hb m) (ehD D m w) y = true then 1 else 0) = _
            rw [hok]; rfl
          rw [s3, s4, nI_1]
          have r37 := hR2.ui (k := 60) (j := 37) (v := nI (cntY (pfD D hb m) (ehD D m w) y + 1)) (Or.inr (by decide))
          have c37 : SC σ (hv_ui σ2 60 37 (nI (cntY (pfD D hb m) (ehD D m w) y + 1))) := s1.trans (SC.u (by decide))
          have p8y := pop_le y 8
          cases hbz : bstY (pfD D hb m) (ehD D m w) y with
          | none =>
            rw [hbz] at e1
            refine ⟨fun _ => nx _ (c37.trans (SC.u (by decide))) (r37.ui (Or.inr (by decide))) ?_ ((gN_W hg2).of (fun j => rfl)) ?_ ?_, fun c => absurd (by decide) c⟩
            · rw [ui_1, if_neg (by decide), ui_1, if_neg (by decide)]; exact s2
            · rw [ui_1, if_pos ⟨rfl, rfl⟩, e1]; rfl
            · rw [ui_1, if_neg (by decide), ui_1, if_pos ⟨rfl, rfl⟩, e2]
          | some z =>
            rw [hbz] at e1
            have hz := bY hbz
            have p8z := pop_le z 8
            refine ⟨fun c => absurd c (nI_pos (by omega)), fun _ => y_ones (by omega) ?_⟩
            have e36 : (hv_ui σ2 60 37 (nI (cntY (pfD D hb m) (ehD D m w) y + 1))).1 60 36 = nI z := by
              rw [ui_1, if_neg (by decide), s3, hbz]; rfl
            rw [e36]
            refine y_ones hz ?_
            rw [nI_leI (by omega) (by omega)]
            refine ⟨fun c => nx _ c37 r37 ?_ ((gN_W hg2).of (fun j => rfl)) ?_ ?_, fun c => nx _ (c37.trans (SC.u (by decide))) (r37.ui (Or.inr (by decide))) ?_ ((gN_W hg2).of (fun j => rfl)) ?_ ?_⟩
            · rw [ui_1, if_neg (by decide)]; exact s2
            · rw [e36, e1.trans (if_neg (by omega))]; rfl
            · rw [ui_1, if_pos ⟨rfl, rfl⟩, e2]
            · rw [ui_1, if_neg (by decide), ui_1, if_neg (by decide)]; exact s2
            · rw [ui_1, if_pos ⟨rfl, rfl⟩, e1.trans (if_pos (by omega))]; rfl
            · rw [ui_1, if_neg (by decide), ui_1, if_pos ⟨rfl, rfl⟩, e2]
  refine B_X10_findBest _ ?_
  suffices ∀ d i, i + d = D 0 0 → L_X10_findBest_4 l e Φ (nI m) (nI (msk (isO (ehD D m w)) i)) (nI i) σ by exact this (D 0 0) 0 (by omega)
  intro d
  induction d with
  | zero =>
    intro i hi
    have hin : i = D 0 0 := by omega
    subst hin
    refine B_X10_findBest_4 _ _ _ ⟨fun _ => ?_, fun q => absurd (by rw [hR.1.1]; exact nI_le (Nat.le_refl _) (by omega)) q⟩
    have eO2 : msk (isO (ehD D m w)) (D 0 0) = O := eO.symm
    rw [eO2]
    refine loop 256 0 _ (by omega) (Nat.zero_and O) ((SC.u (by decide)).trans (SC.u (by decide))) ((hR.ui (Or.inr (by decide))).ui (Or.inr (by decide))) ?_ (hg.of (fun j => rfl)) ?_ ?_
    · rw [ui_1, if_neg (by decide), ui_1, if_neg (by decide)]; exact h35
    · rw [ui_1, if_neg (by decide), ui_1, if_pos ⟨rfl, rfl⟩]; rfl
    · rw [ui_1, if_pos ⟨rfl, rfl⟩]; rfl
  | succ d ih =>
    intro i hi
    refine B_X10_findBest_4 _ _ _ ⟨fun q => absurd q (by rw [hR.1.1]; exact nI_ge (by omega) (by omega)), fun _ => y_isOrder hR hW hm (show i < D 0 0 by omega) hw h35 ?_⟩
    rw [bI_0, nI_1, one_shl (by omega), tI_or, show (0 : Int32) = nI 0 from rfl, tI_or, Nat.or_zero]
    refine ⟨fun q => ?_, fun q => ?_⟩
    · rw [← msk_step (p := isO (ehD D m w)) q]; exact ih (i + 1) (by omega)
    · rw [msk_stepT (p := isO (ehD D m w)) (by
        cases c : isO (ehD D m w) i with
        | true => rfl
        | false => exact absurd c q)]
      exact ih (i + 1) (by omega)
theorem y_findAll {Φ : hv_S → Prop} {m w : Nat} (hR : RM D hb It σ) (hW : hWF D) (hm : m < 3) (hw : w ≤ 100) (k : ∀ σ', SC σ σ' → RM D hb It σ' → gM σ' (D 0 0) (GX D hb m w 0 none) → Φ σ') : hv_CV l (hv_e2 e) 11 m_X10_findAll [.ref 60, .int (nI m), .int (nI w)] σ Φ := by
  have hL0 : hL D m w 0 none = ehD D m w := ehS0 _
  have hn := hW.1
  unfold GX at k
  rw [hL0] at k
  refine B_X10_findAll _ _ (y_findHands hR hW hm hw (fun σ1 hS1 hR1 h351 hg1 => ?_))
  have h22 := hR1.2.2.1.2.2.2.2.1
  rw [h22]
  have again : ∀ σ2, SC σ σ2 → RM D hb It σ2 → bst (pfD D hb m) (ehD D m w) = none → hv_CV l (hv_e2 e) 10 m_X10_findHands [.ref 60, .int (nI m), .int (nI w)] σ2 (fun s7 => Φ s7) := fun σ2 hS2 hR2 hbn => by
    refine y_findHands hR2 hW hm hw (fun σ3 hS3 hR3 _ hg3 => k σ3 (hS2.trans hS3) hR3 (hg3.congr (fun a b _ _ => ?_)))
    unfold GG
    rw [hbn]
    by_cases c : D 0 6 = 0
    · rw [if_pos c]
    · rw [if_neg c]
  by_cases c : D 0 6 = 0
  · rw [if_pos c]
    refine ⟨fun q => absurd q (by decide), fun _ => k σ1 hS1 hR1 (hg1.congr (fun a b _ _ => ?_))⟩
    unfold GG; rw [if_pos c]
  · rw [if_neg c]
    refine ⟨fun _ => y_findBest hR1 hW hm hw h351 (gN_0 hg1) (fun σ2 hS2 hR2 h352 hg2 h36 _ => ?_), fun q => absurd rfl q⟩
    rw [h36]
    cases hbs : bst (pfD D hb m) (ehD D m w) with
    | none => exact ⟨fun _ => again σ2 (hS1.trans hS2) hR2 hbs, fun q => absurd (by decide) q⟩
    | some y =>
      have hok := (bstY_ok hbs).1
      have hO : ordM (pfD D hb m) (ehD D m w) < 2 ^ D 0 0 := msk_lt _ _
      have p8 : 2 ^ D 0 0 ≤ 2 ^ 8 := Nat.pow_le_pow_right (by decide) hn
      have hy : y < 2 ^ 31 := by
        have h1 := (bo_t.mp hok).1
        have h2 : y &&& ordM (pfD D hb m) (ehD D m w) ≤ ordM (pfD D hb m) (ehD D m w) := Nat.and_le_right
        omega
      refine ⟨fun q => absurd q (nI_pos hy), fun _ => ?_⟩
      refine y_putOrders hR2 hW hm hw h352 hy hg2 (fun q => absurd (bo_t.mp hok).2.1 q) (fun _ σ3 hS3 hR3 hg3 => ⟨fun q => absurd q (by decide), fun _ => k σ3 ((hS1.trans hS2).trans hS3.sc) hR3 (hg3.congr (fun a b _ _ => ?_))⟩)
      unfold GG
      rw [if_neg c, hbs]
theorem y_share {Φ : Int32 → hv_S → Prop} (hR : RM D hb It σ) (hW : hWF D) (x y z : Int32) (k : ∀ σ', RM D hb It σ' → Φ (shA D hb x y z) σ') : hv_CI l (hv_e2 e) 12 m_X10_share [.ref 60, .int x, .int y, .int z] σ Φ := by
  have hn := hW.1
  have hw := hW.2.1
  unfold shA at k
  refine B_X10_share _ _ _ (y_isMember hR hW x (fun h => ⟨fun _ => ?_, fun q => absurd rfl q⟩) (fun a ha hx => ⟨fun q => absurd q (by decide), fun _ => y_isMember hR hW y (fun h => ⟨fun _ => ?_, fun q => absurd rfl q⟩) (fun b hb' hy => ⟨fun q => absurd q (by decide), fun _ => y_isMatter z (fun h => ⟨fun q => absurd rfl q, fun _ => ?_⟩) (fun m hm hz => ⟨fun _ => ?_, fun q => absurd q (by decide)⟩)⟩)⟩))
  · rw [an1_out (by omega) h] at k; exact k σ hR
  · rw [hx, an1_in (by omega) ha, an1_out (by omega) h] at k; exact k σ hR
  · rw [hx, an1_in (by omega) ha, hy, an1_in (by omega) hb', an1_out (by omega) h] at k; exact k σ hR
  · rw [hx, an1_in (by omega) ha, hy, an1_in (by omega) hb', hz, an1_in (by omega) hm] at k
    subst hx
    subst hy
    subst hz
    rw [hR.1.2.1]
    refine y_findAll hR hW hm (by omega) (fun σ1 hS1 hR1 hg1 => ?_)
    have k := k σ1 hR1
    rw [cellM, nI_clamp (by omega), hg1 a b ha hb']
    exact ⟨vp_in_nI (by omega) (by decide), k⟩
theorem y_best {Φ : Int32 → hv_S → Prop} (hR : RM D hb It σ) (hW : hWF D) (x y : Int32) (k : ∀ σ', RM D hb It σ' → Φ (beA D hb x y) σ') : hv_CI l (hv_e2 e) 11 m_X10_best [.ref 60, .int x, .int y] σ Φ := by
  have hn := hW.1
  have hw := hW.2.1
  have p8 : 2 ^ D 0 0 ≤ 2 ^ 8 := Nat.pow_le_pow_right (by decide) hn
  unfold beA at k
  refine B_X10_best _ _ (y_isMatter x (fun h => ⟨fun _ => ?_, fun q => absurd rfl q⟩) (fun m hm hx => ⟨fun q => absurd q (by decide), fun _ => ?_⟩))
  · rw [an1_out (by omega) h] at k; exact k σ hR
  · rw [hx, an1_in (by omega) hm] at k
    subst hx
    rw [hR.1.1, hR.1.2.1]
    refine ⟨fun q => ?_, fun q1 => ⟨fun q2 => ?_, fun q2 => ?_⟩⟩
    · rw [if_neg (fun c => by rw [c] at q; exact absurd q (by decide)), an1_out (by omega) (fun a ha hy => by rw [hy] at q; exact nI_pos (show a < 2 ^ 31 by omega) (Int32.lt_trans q (by decide)))] at k
      exact k σ hR
    · refine y_findHands hR hW hm (by omega) (fun σ1 hS1 hR1 h351 hg1 => ?_)
      have L47 : (∀ σ2, RM D hb It σ2 → σ2.1 60 36 = oM (bst (pfD D hb m) (ehD D m (D 0 1))) → σ2.1 60 37 = nI (cnt (pfD D hb m) (ehD D m (D 0 1))) → ((0 ≤ y → ((0 ≤ (σ2.1 60 36) → Φ (((σ2.1 60 36) >>> (y &&& 31)) &&& 1) σ2) ∧ (¬ 0 ≤ (σ2.1 60 36) → Φ (-5) σ2))) ∧ (¬ 0 ≤ y → Φ (σ2.1 60 37) σ2))) → L_X10_best_47 l e Φ (nI m) y σ1 := fun hk =>
        B_X10_best_47 _ _ (y_findBest hR1 hW hm (by omega) h351 (gN_0 hg1) (fun σ2 hS2 hR2 _ _ h36 h37 => hk σ2 hR2 h36 h37))
      refine ⟨fun q => L47 (fun σ2 hR2 _ h37 => ⟨fun c => absurd q (Int32.not_lt.mpr c), fun _ => ?_⟩), fun q => ?_⟩
      · have w1 := Int32.lt_iff_toInt_lt.mp q
        have w2 : ¬ y.toInt < (-1 : Int32).toInt := fun z => q1 (Int32.lt_iff_toInt_lt.mpr z)
        rw [show (0 : Int32).toInt = 0 by decide] at w1
        rw [show (-1 : Int32).toInt = -1 by decide] at w2
        have hy : y = -1 := Int32.toInt_inj.mp (by rw [show (-1 : Int32).toInt = -1 by decide]; omega)
        rw [if_pos hy] at k
        rw [h37]; exact k σ2 hR2
      · rcases i32_cases y with c | ⟨a, ha, rfl⟩
        · exact absurd c q
        · have ha : a < D 0 0 := (nI_ltI ha (by omega)).mp q2
          rw [if_neg (nI_ne_m1 (by omega)), an1_in (by omega) ha] at k
          refine y_isOrder hR1 hW hm ha (by omega) h351 ?_
          rw [ne_eq, bI_0]
          refine ⟨fun q3 => L47 (fun σ2 hR2 h36 _ => ⟨fun _ => ?_, fun c => absurd (nI_pos' (by omega)) c⟩), fun q3 => ?_⟩
          · have q4 : isO (ehD D m (D 0 1)) a = true := by
              cases c : isO (ehD D m (D 0 1)) a with
              | true => rfl
              | false => exact absurd c q3
            rw [if_pos q4] at k
            have k := k σ2 hR2
            rw [h36]
            cases hbs : bst (pfD D hb m) (ehD D m (D 0 1)) with
            | none => rw [hbs] at k; exact ⟨fun c => absurd c (by decide), fun _ => k⟩
            | some z =>
              rw [hbs] at k
              have hz := (bstY_ok hbs).2
              have hO8 : ordM (pfD D hb m) (ehD D m (D 0 1)) < 2 ^ D 0 0 := msk_lt _ _
              refine ⟨fun _ => ?_, fun c => absurd (nI_pos' (by omega)) c⟩
              show Φ ((nI z >>> (nI a &&& 31)) &&& 1) σ2
              rw [bt_v (by omega) (by omega)]
              exact k
          · rw [if_neg (by rw [q3]; decide)] at k
            exact k σ1 hR1
    · rw [if_neg (fun c => by rw [c] at q2; exact q2 (Int32.lt_iff_toInt_lt.mpr (by rw [nI_toInt (by omega), show (-1 : Int32).toInt = -1 by decide]; omega))), an1_out (by omega) (fun a ha hy => q2 (by rw [hy]; exact nI_lt ha (by omega)))] at k
      exact k σ hR
theorem y_surest {Φ : Int32 → hv_S → Prop} (hR : RM D hb It σ) (hW : hWF D) (x : Int32) (k : Φ (an1 3 x (fun m => oR (sst (fun a => D 6 (8 * m + a)) (fun _ => true) (D 0 0))) (-1)) σ) : hv_CI l (hv_e2 e) 2 m_X10_surest [.ref 60, .int x] σ Φ := by
  have hn := hW.1
  refine B_X10_surest _ (y_isMatter x (fun h => ⟨fun q => absurd rfl q, fun _ => ?_⟩) (fun m hm hx => ⟨fun _ => ?_, fun q => absurd q (by decide)⟩))
  · rw [an1_out (by omega) h] at k; exact k
  · subst hx
    rw [an1_in (by omega) hm] at k
    have hsu : ∀ c, c < 24 → D 6 c ≤ 10 := fun c hc => (hW.2.2.2.2.2.2.2.2.2.1 c hc).2.2.2.1
    suffices ∀ d i, i + d = D 0 0 → L_X10_surest_15 l e Φ (nI m) (oR (sst (fun a => D 6 (8 * m + a)) (fun _ => true) i)) (nI i) σ by exact this (D 0 0) 0 (by omega)
    intro d
    induction d with
    | zero =>
      intro i hi
      have hin : i = D 0 0 := by omega
      subst hin
      exact B_X10_surest_15 _ _ _ ⟨fun _ => k, fun q => absurd (by rw [hR.1.1]; exact nI_le (Nat.le_refl _) (by omega)) q⟩
    | succ d ih =>
      intro i hi
      refine B_X10_surest_15 _ _ _ ⟨fun q => absurd q (by rw [hR.1.1]; exact nI_ge (by omega) (by omega)), fun _ => ?_⟩
      have es := sst_t (q := fun b => D 6 (8 * m + b)) (ok := fun _ => true) (k := i) rfl
      have hx := ih (i + 1) (by omega)
      rw [nI_1]
      cases hs : sst (fun b => D 6 (8 * m + b)) (fun _ => true) i with
      | none =>
        rw [hs] at es
        rw [es] at hx
        exact ⟨fun _ => hx, fun z => absurd (by decide) z⟩
      | some b =>
        rw [hs] at es
        have hbi := (sst_ok hs).1
        refine ⟨fun z => absurd z (nI_pos (by omega)), fun _ => ?_⟩
        show vp_in ((8 * nI m) + nI i) 24 ∧ (vp_in ((8 * nI m) + nI b) 24 ∧ (((σ.1 66 (((8 * nI m) + nI i).toNatClampNeg)) ≤ (σ.1 66 (((8 * nI m) + nI b).toNatClampNeg)) → _) ∧ (¬ (σ.1 66 (((8 * nI m) + nI i).toNatClampNeg)) ≤ (σ.1 66 (((8 * nI m) + nI b).toNatClampNeg)) → _)))
        have h1 := hsu (8 * m + i) (by omega)
        have h2 := hsu (8 * m + b) (by omega)
        rw [cellM, cellM, nI_clamp (by omega), nI_clamp (by omega), (hR.1.2.2.2.2 m i hm (by omega)).1, (hR.1.2.2.2.2 m b hm (by omega)).1, nI_leI (by omega) (by omega)]
        refine ⟨vp_in_nI (by omega) (by decide), vp_in_nI (by omega) (by decide), fun z => ?_, fun z => ?_⟩
        · rw [es.trans (if_neg (by omega))] at hx; exact hx
        · rw [es.trans (if_pos (by omega))] at hx; exact hx
end FB
