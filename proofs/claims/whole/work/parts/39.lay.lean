-- layOrders, layFirm, lay
theorem bstY_t {P : hPF} {h : hEH} {k : Nat} (q : okY P h k = true) : bstY P h (k + 1) = (match bstY P h k with | none => some k | some z => if pop 8 k < pop 8 z then some k else some z) := by
  show (if okY P h k = true then _ else _) = _
  rw [if_pos q]
  rfl
theorem bstY_f {P : hPF} {h : hEH} {k : Nat} (q : okY P h k = false) : bstY P h (k + 1) = bstY P h k := by
  show (if okY P h k = true then _ else _) = _
  rw [if_neg (by rw [q]; decide)]
theorem bstY_ok {P : hPF} {h : hEH} : ∀ {k y : Nat}, bstY P h k = some y → okY P h y = true ∧ y < k := by
  intro k
  induction k with
  | zero => intro y q; exact absurd q (by intro z; cases z)
  | succ k ih =>
    intro y q
    rcases Bool.eq_false_or_eq_true (okY P h k) with hk | hk
    · rw [bstY_t hk] at q
      rcases hz : bstY P h k with _ | z
      · rw [hz] at q
        have q2 : k = y := Option.some.inj q
        rw [← q2]; exact ⟨hk, by omega⟩
      · rw [hz] at q
        have q2 : (if pop 8 k < pop 8 z then some k else some z) = some y := q
        have i2 := ih (y := z) hz
        by_cases c : pop 8 k < pop 8 z
        · rw [if_pos c] at q2
          have q3 : k = y := Option.some.inj q2
          rw [← q3]; exact ⟨hk, by omega⟩
        · rw [if_neg c] at q2
          have q3 : z = y := Option.some.inj q2
          rw [← q3]; exact ⟨i2.1, by omega⟩
    · rw [bstY_f hk] at q
      have := ih q
      exact ⟨this.1, by omega⟩
def oY (o : Option Nat) : Int32 := match o with
  | none => -5
  | some b => nI b
/-- where an order hands to -/
def ordT (P : hPF) (h : hEH) (w : Option Nat) (a : Nat) : Nat := match w with
  | none => tg P a (if P.2.2 a (h a).2.1 then (h a).2.2.1 else (h a).2.1)
  | some y => nmY h y a
def Gn (P : hPF) (G : Nat → Nat → Nat) (a b : Nat) : Nat := if a < P.1 then G a b else 0
def Gw (P : hPF) (h : hEH) (w : Option Nat) (a b : Nat) : Nat := if isO h a then pt (ordT P h w a) 10 b else G0 P h a b
section WE
variable {l : Launch} {e : hv_Ev} {σ : hv_S} {D : hD} {hb : hB} {It : hT} {m : Nat} {h : hEH}
theorem x_layO {Φ : hv_S → Prop} {w : Option Nat} (hR : RX D hb It σ) (hm : m < 3) (hW : hWF D) (hO : ehO D m h) (hB : spB σ (D 0 0) m (ordM (pfD D hb m) h)) (hg : spG σ (gF (pfD D hb m) h) (ordM (pfD D hb m) h))
    (hw : ∀ y, w = some y → y < 256 ∧ ∀ a, a < D 0 0 → isO h a = true → bar D hb m a (nmY h y a) = false)
    (k : ∀ σ', SE σ σ' → spG σ' (Gn (pfD D hb m) (Gw (pfD D hb m) h w)) 0 → Φ σ') : L_X5_layOrders_35 l e Φ (oI w) 0 σ := by
  have hn := hW.1
  suffices ∀ d i σ', i + d = D 0 0 → SE σ σ' → spG σ' (fun a b => if a < D 0 0 then (if isO h a = true then (if a < i then pt (ordT (pfD D hb m) h w a) 10 b else 0) else G0 (pfD D hb m) h a b) else 0) (msk (fun a => isO h a && decide (i ≤ a)) (D 0 0)) → L_X5_layOrders_35 l e Φ (oI w) (nI i) σ' by
    refine this (D 0 0) 0 σ (by omega) (SE.refl σ) ((hg.congr (fun a b ha hb' => ?_)).weak (fun a ha hq => ?_))
    · unfold gF
      show (if a < D 0 0 ∧ _ then _ else _) = _
      by_cases h1 : a < D 0 0 <;> cases h2 : isO h a <;> simp [h1]
    · rw [ordM_b]
      rw [msk_bit] at hq
      show (decide (a < D 0 0) && isO h a) = false
      simpa using hq
  intro d
  induction d with
  | zero =>
    intro i σ' hi hS hg'
    have hin : i = D 0 0 := by omega
    subst hin
    have hR' := hR.of hS.1
    refine B_X5_layOrders_35 _ _ ⟨fun _ => k σ' hS ((hg'.congr (fun a b ha hb' => ?_)).weak (fun a ha hq => ?_)), fun q => absurd (by rw [hR'.1.1]; exact nI_le (Nat.le_refl _) (by omega)) q⟩
    · unfold Gn Gw
      show _ = (if a < D 0 0 then _ else _)
      by_cases h1 : a < D 0 0 <;> cases h2 : isO h a <;> simp [h1]
    · rw [msk_bit]
      by_cases h1 : a < D 0 0
      · simp [show ¬ D 0 0 ≤ a by omega]
      · simp [h1]
  | succ d ih =>
    intro i σ' hi hS hg'
    have hR' := hR.of hS.1
    have hB' := hB.of hS
    have hO31 : ordM (pfD D hb m) h < 2 ^ 31 := Nat.lt_of_lt_of_le (msk_lt _ _) (Nat.pow_le_pow_right (by decide) (show D 0 0 ≤ 31 by omega))
    have hob : (ordM (pfD D hb m) h).testBit i = isO h i := by rw [ordM_b]; simp [show i < (pfD D hb m).1 from (by show i < D 0 0; omega)]
    refine B_X5_layOrders_35 _ _ ⟨fun q => absurd q (by rw [hR'.1.1]; exact nI_ge (by omega) (by omega)), fun _ => ?_⟩
    rw [hB'.2.2.2, nI_1]
    refine ⟨fun q => ?_, fun q => ?_⟩
    · have q1 := (bt_0 hO31 (by omega)).mp q
      rw [hob] at q1
      refine ih (i + 1) σ' (by omega) hS ((hg'.congr (fun a b ha hb' => ?_)).weak (fun a ha hq => ?_))
      · by_cases ea : a = i
        · subst ea; simp [q1]
        · simp [show a < i + 1 ↔ a < i by omega]
      · rw [msk_bit] at hq ⊢
        by_cases ea : a = i
        · subst ea; simp [q1]
        · simpa [show i + 1 ≤ a ↔ i ≤ a by omega] using hq
    · have q1 : isO h i = true := by
        cases z : isO h i with
        | true => rfl
        | false => exact absurd ((bt_0 hO31 (by omega)).mpr (by rw [hob]; exact z)) q
      obtain ⟨-, -, o3, o4, o5, o6⟩ := hO i (by omega) q1
      rw [nI_clamp (by omega)]
      refine ⟨vp_in_nI (by omega) (by decide), ?_⟩
      have hS2 : SE σ' (hv_ui σ' 20 i 0) := ⟨XE.ui (by decide), fun j _ => rfl, fun k' hk j => by rw [ui_1, if_neg (fun z => by omega)], rfl⟩
      have hS3 := hS.trans hS2
      have hg2 : spG (hv_ui σ' 20 i 0) (fun a b => if a < D 0 0 then (if isO h a = true then (if a < i then pt (ordT (pfD D hb m) h w a) 10 b else 0) else G0 (pfD D hb m) h a b) else 0) (msk (fun a => isO h a && decide (i + 1 ≤ a)) (D 0 0)) := by
        refine ⟨fun a b ha hb' => by rw [ui_1, if_neg (fun z => by omega)]; exact hg'.1 a b ha hb', by rw [ui_1, if_neg (fun z => by omega)]; exact hg'.2.1, fun a ha hq => ?_⟩
        rw [ui_1]
        by_cases ea : a = i
        · subst ea
          rw [if_pos ⟨rfl, rfl⟩]
          have e0 : 0 = msk (fun b => decide (b ≠ a ∧ 0 < (if a < D 0 0 then (if isO h a = true then (if a < a then pt (ordT (pfD D hb m) h w a) 10 b else 0) else G0 (pfD D hb m) h a b) else 0))) 8 := by
            refine tb_ext (n := 8) (S := 0) (Nat.two_pow_pos 8) (msk8 _) (fun j hj => ?_)
            rw [mskI _ j hj, Nat.zero_testBit]
            simp [q1]
          rw [← e0]
          rfl
        · rw [if_neg (fun z => ea z.2)]
          refine hg'.2.2 a ha ?_
          rw [msk_bit] at hq ⊢
          simpa [show i + 1 ≤ a ↔ i ≤ a by omega] using hq
      have hgo : ∀ (t : Nat) (σ4 : hv_S), t = ordT (pfD D hb m) h w i → SE (hv_ui σ' 20 i 0) σ4 → spG σ4 (gad (fun a b => if a < D 0 0 then (if isO h a = true then (if a < i then pt (ordT (pfD D hb m) h w a) 10 b else 0) else G0 (pfD D hb m) h a b) else 0) i t 10) (msk (fun a => isO h a && decide (i + 1 ≤ a)) (D 0 0)) → L_X5_layOrders_35 l e Φ (oI w) (nI (i + 1)) σ4 := by
        intro t σ4 ht hS4 hg4
        subst ht
        refine ih (i + 1) σ4 (by omega) (hS3.trans hS4) (hg4.congr (fun a b ha hb' => ?_))
        unfold gad
        by_cases ea : a = i
        · subst ea
          simp only [q1, show a < D 0 0 by omega, Nat.lt_irrefl, if_true, if_false, true_and, Nat.lt_succ_self, Nat.zero_add]
          unfold pt
          rfl
        · simp [ea, show a < i + 1 ↔ a < i by omega]
      have hB3 := hB.of hS3
      have hR3 := hR.of hS3.1
      cases hwc : w with
      | none =>
        rw [hwc] at hgo hg2
        refine x_nameOfN hR3 hm hW hO hB3 (by omega) q1 ?_
        have hn8 : (if bar D hb m i (h i).2.1 = true then (h i).2.2.1 else (h i).2.1) < 8 ∧ (if bar D hb m i (h i).2.1 = true then (h i).2.2.1 else (h i).2.1) ≠ i := by split <;> omega
        exact x_send (x := 10) (D := D) (hb := hb) (It := It) (m := m) hR3 hm hB3 hg2 (by omega) hn8.1 hn8.2 (by decide) (fun σ4 hS4 hg4 => hgo _ σ4 rfl hS4 hg4)
      | some y =>
        rw [hwc] at hgo hg2
        obtain ⟨y1, y2⟩ := hw y hwc
        refine x_nameOf hR3 hm hW hO hB3 (by omega) q1 (by omega) ?_
        have hn8 : nmY h y i < 8 ∧ nmY h y i ≠ i := by unfold nmY; split <;> omega
        have htg : tg (pfD D hb m) i (nmY h y i) = nmY h y i := by unfold tg; rw [show (pfD D hb m).2.2 i (nmY h y i) = bar D hb m i (nmY h y i) from rfl, y2 i (by omega) q1]; rfl
        exact x_send (x := 10) (D := D) (hb := hb) (It := It) (m := m) hR3 hm hB3 hg2 (by omega) hn8.1 hn8.2 (by decide) (fun σ4 hS4 hg4 => hgo _ σ4 htg hS4 hg4)
theorem GG_w (P : hPF) (ring : Nat) (h : hEH) : GG P ring h = Gw P h (if ring = 0 then none else bst P h) := by
  funext a b
  unfold GG Gw
  by_cases hr : ring = 0
  · simp only [hr, if_true]
    cases ho : isO h a with
    | true => simp only [if_true]; rw [G0_3 (isO_t.mp ho)]; rfl
    | false => simp
  · simp only [hr, if_false]
    cases hbs : bst P h with
    | none =>
      simp only []
      cases ho : isO h a with
      | true => simp only [if_true]; rw [G0_3 (isO_t.mp ho)]; rfl
      | false => simp
    | some y => rfl
theorem gF_noO {P : hPF} {h : hEH} (h0 : ordM P h = 0) (w : Option Nat) : ∀ a b, a < 8 → b < 8 → gF P h a b = Gn P (Gw P h w) a b := by
  intro a b _ _
  unfold gF Gn Gw
  by_cases ha : a < P.1
  · have : isO h a = false := by
      have := ordM_b P h a
      rw [h0, Nat.zero_testBit] at this
      simpa [ha] using this.symm
    simp [ha, this]
  · simp [ha]
theorem x_layOrders {Φ : hv_S → Prop} (hR : RX D hb It σ) (hm : m < 3) (hW : hWF D) (hO : ehO D m h) (hB : spB σ (D 0 0) m (ordM (pfD D hb m) h)) (hg : spG σ (gF (pfD D hb m) h) 0)
    (k : ∀ σ', SE σ σ' → spG σ' (Gn (pfD D hb m) (GG (pfD D hb m) (D 0 6) h)) 0 → Φ σ') : hv_CV l (hv_e1 e) 3 m_X5_layOrders [.ref 18] σ Φ := by
  have hn := hW.1
  have hgO := hg.weak (B' := ordM (pfD D hb m) h) (fun a _ _ => by simp)
  rw [GG_w] at k
  have hO256 : ordM (pfD D hb m) h < 2 ^ 8 := Nat.lt_of_lt_of_le (msk_lt _ _) (Nat.pow_le_pow_right (by decide) hn)
  have hr1 : D 0 6 ≤ 1 := hW.2.2.2.2.2.2.2.1
  refine B_X5_layOrders ⟨fun q => ?_, fun q => ?_⟩
  · have q1 : ordM (pfD D hb m) h = 0 := (nI_eq (b := 0) (by omega) (by decide)).mp (by rw [← hB.2.2.2]; exact q)
    refine x_layO (w := none) hR hm hW hO hB hgO (fun y q => by cases q) (fun σ' hS hg' => k σ' hS (hg'.congr (fun a b ha hb' => ?_)))
    rw [← gF_noO q1 none a b ha hb', ← gF_noO q1 _ a b ha hb']
  · have hrul := hR.2.2.1.2.2.1
    have hr5 : σ.1 (σ.2.2 15 3) 5 = nI (D 0 6) := hrul.2.2.2.1
    refine ⟨?_, fun q2 => ?_, fun q2 => ?_⟩
    · rcases hR.2.2.1.1 with ⟨-, z⟩ | ⟨-, z⟩ <;> rw [z]
      · exact Or.inr rfl
      · exact Or.inl rfl
    · have q3 : D 0 6 = 0 := (nI_eq (b := 0) (by omega) (by decide)).mp (by rw [← hr5]; exact q2)
      rw [q3, if_pos rfl] at k
      exact x_layO (w := none) hR hm hW hO hB hgO (fun y q => by cases q) k
    · have q3 : D 0 6 ≠ 0 := fun z => q2 (by rw [hr5, z]; rfl)
      rw [if_neg q3] at k
      refine x_seekWays (Or.inl rfl) hR hm hW hO hB hgO (fun σ1 hS1 hg1 _ h10 => ?_)
      rw [h10]
      refine x_layO (w := bst (pfD D hb m) h) (hR.of hS1.1) hm hW hO (hB.of hS1) hg1 (fun y hy => ?_) (fun σ' hS hg' => k σ' (hS1.trans hS) hg')
      obtain ⟨y1, y2⟩ := bstY_ok hy
      have y3 := bo_t.mp y1
      exact ⟨by omega, fun a ha ho => y3.2.1 a ha ho⟩
end WE
