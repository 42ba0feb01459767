-- ways of orders
def ehO (D : hD) (m : Nat) (h : hEH) : Prop := ∀ a, a < D 0 0 → isO h a = true → (h a).2.1 = D 3 (8 * m + a) ∧ (h a).2.2.1 = D 4 (8 * m + a) ∧ (h a).2.1 < D 0 0 ∧ (h a).2.2.1 < D 0 0 ∧ (h a).2.1 ≠ a ∧ (h a).2.2.1 ≠ a
def gF (P : hPF) (h : hEH) (a b : Nat) : Nat := if a < P.1 ∧ isO h a = false then G0 P h a b else 0
theorem nmX_lt {v : Nat} (h : v < 9) : nmX v = nI v := if_neg (by omega)
theorem lt_bits {S n : Nat} (h : ∀ i, n ≤ i → S.testBit i = false) : S < 2 ^ n := Nat.lt_pow_two_of_testBit S h
theorem ordM_b (P : hPF) (h : hEH) (a : Nat) : (ordM P h).testBit a = (decide (a < P.1) && isO h a) := msk_bit _ _ _
theorem spG.weak {σ : hv_S} {g : Nat → Nat → Nat} {B B' : Nat} (h : spG σ g B) (hb : ∀ a, a < 8 → B'.testBit a = false → B.testBit a = false) : spG σ g B' := ⟨h.1, h.2.1, fun a ha q => h.2.2 a ha (hb a ha q)⟩
section WB
variable {l : Launch} {e : hv_Ev} {σ : hv_S} {D : hD} {hb : hB} {It : hT} {m : Nat} {h : hEH}
theorem x_names (hR : RX D hb It σ) (hm : m < 3) (hW : hWF D) (hO : ehO D m h) {i : Nat} (hi : i < D 0 0) (ho : isO h i = true) : σ.1 6 (8 * m + i) = nI (h i).2.1 ∧ σ.1 7 (8 * m + i) = nI (h i).2.2.1 := by
  have hn := hW.1
  obtain ⟨-, -, -, g4, g5, -⟩ := hR.1.2.2.2 (8 * m + i) (by omega)
  obtain ⟨o1, o2, o3, o4, -, -⟩ := hO i hi ho
  rw [g4, g5, ← o1, ← o2, nmX_lt (by omega), nmX_lt (by omega)]
  exact ⟨rfl, rfl⟩
theorem x_nameOf {Φ : Int32 → hv_S → Prop} {y i n O : Nat} (hR : RX D hb It σ) (hm : m < 3) (hW : hWF D) (hO : ehO D m h) (hB : spB σ n m O) (hi : i < D 0 0) (ho : isO h i = true) (hy : y < 2 ^ 31) (k : Φ (nI (nmY h y i)) σ) : hv_CI l (hv_e1 e) 0 m_X5_nameOf [.ref 18, .int (nI i), .int (nI y)] σ Φ := by
  have hn := hW.1
  obtain ⟨n1, n2⟩ := x_names hR hm hW hO hi ho
  refine B_X5_nameOf _ _ ⟨fun q => absurd q (nI_pos hy), fun _ => ?_⟩
  have e0 : σ.1 18 8 + nI i = nI (8 * m + i) := by rw [hB.1, nI_add]
  rw [e0, nI_clamp (by omega), n1, n2]
  have hv : vp_in (nI (8 * m + i)) 24 := vp_in_nI (by omega) (by decide)
  unfold nmY at k
  refine ⟨fun q => ⟨hv, ?_⟩, fun q => ⟨hv, ?_⟩⟩
  · rw [(bt_0 hy (by omega)).mp q] at k; exact k
  · have : y.testBit i = true := by
      cases z : y.testBit i with
      | true => rfl
      | false => exact absurd ((bt_0 hy (by omega)).mpr z) q
    rw [this] at k; exact k
theorem x_nameOfN {Φ : Int32 → hv_S → Prop} {i n O : Nat} (hR : RX D hb It σ) (hm : m < 3) (hW : hWF D) (hO : ehO D m h) (hB : spB σ n m O) (hi : i < D 0 0) (ho : isO h i = true) (k : Φ (nI (if bar D hb m i (h i).2.1 = true then (h i).2.2.1 else (h i).2.1)) σ) : hv_CI l (hv_e1 e) 0 m_X5_nameOf [.ref 18, .int (nI i), .int (-5)] σ Φ := by
  have hn := hW.1
  obtain ⟨n1, n2⟩ := x_names hR hm hW hO hi ho
  obtain ⟨o1, o2, o3, o4, -, -⟩ := hO i hi ho
  have e0 : σ.1 18 8 + nI i = nI (8 * m + i) := by rw [hB.1, nI_add]
  refine B_X5_nameOf _ _ ⟨fun _ => ?_, fun q => absurd (by decide) q⟩
  rw [e0, nI_clamp (by omega), n1, n2, x_bar hR hm (show i < 8 by omega)]
  have hv : vp_in (nI (8 * m + i)) 24 := vp_in_nI (by omega) (by decide)
  have h31 : msk (fun b => bar D hb m i b) 8 < 2 ^ 31 := Nat.lt_trans (msk8 _) (by decide)
  have hbit := mskI (fun b => bar D hb m i b) (h i).2.1 (by omega)
  refine ⟨hv, hv, fun z1 ez => ⟨fun q => ⟨hv, ?_⟩, fun q => ⟨hv, ?_⟩⟩⟩
  · subst ez
    have q1 := (bt_0 h31 (by omega)).mp q
    rw [hbit] at q1
    rw [q1] at k; exact k
  · subst ez
    have : bar D hb m i (h i).2.1 = true := by
      cases z : bar D hb m i (h i).2.1 with
      | true => rfl
      | false => exact absurd ((bt_0 h31 (by omega)).mpr (by rw [hbit]; exact z)) q
    rw [this] at k; exact k
theorem x_openNames {Φ : Int32 → hv_S → Prop} {p : Nat} {f : Nat → Nat} (hp : p ∈ hv_pl1) (hs : hv_sh1 p = .inr (0, 24)) (hR : RX D hb It σ) (hm : m < 3) (hW : hWF D) (hB : spB σ (D 0 0) m (ordM (pfD D hb m) h))
    (hf : ∀ i, i < D 0 0 → isO h i = true → σ.1 p (8 * m + i) = nI (f i) ∧ f i < 8) (k : Φ (nI (msk (fun a => isO h a && !bar D hb m a (f a)) (D 0 0))) σ) : hv_CI l (hv_e1 e) 0 m_X5_openNames [.ref 18, .ref p] σ Φ := by
  have hn := hW.1
  refine B_X5_openNames p hp hs ?_
  suffices ∀ d i, i + d = D 0 0 → L_X5_openNames_4 l e p Φ (nI (msk (fun a => isO h a && !bar D hb m a (f a)) i)) (nI i) σ by exact this (D 0 0) 0 (by omega)
  intro d
  induction d with
  | zero =>
    intro i hi
    have hin : i = D 0 0 := by omega
    subst hin
    exact B_X5_openNames_4 p hp hs _ _ ⟨fun _ => k, fun q => absurd (by rw [hR.1.1]; exact nI_le (Nat.le_refl _) (by omega)) q⟩
  | succ d ih =>
    intro i hi
    have hO31 : ordM (pfD D hb m) h < 2 ^ 31 := Nat.lt_of_lt_of_le (msk_lt _ _) (Nat.pow_le_pow_right (by decide) (show D 0 0 ≤ 31 by omega))
    have hob : (ordM (pfD D hb m) h).testBit i = isO h i := by rw [ordM_b]; simp [show i < (pfD D hb m).1 from (by show i < D 0 0; omega)]
    refine B_X5_openNames_4 p hp hs _ _ ⟨fun q => absurd q (by rw [hR.1.1]; exact nI_ge (by omega) (by omega)), fun _ => ?_⟩
    have e0 : σ.1 18 8 + nI i = nI (8 * m + i) := by rw [hB.1, nI_add]
    have hv : vp_in (nI (8 * m + i)) 24 := vp_in_nI (by omega) (by decide)
    rw [hB.2.2.2, nI_1, e0, nI_clamp (by omega)]
    have hst : msk (fun a => isO h a && !bar D hb m a (f a)) (i + 1) = msk (fun a => isO h a && !bar D hb m a (f a)) i + if (isO h i && !bar D hb m i (f i)) = true then 2 ^ i else 0 := rfl
    refine ⟨fun q => ?_, fun q => ⟨hv, hv, ?_⟩⟩
    · have q1 := (bt_0 hO31 (by omega)).mp q
      rw [hob] at q1
      have := ih (i + 1) (by omega)
      rw [hst, q1] at this
      exact this
    · have q1 : isO h i = true := by
        cases z : isO h i with
        | true => rfl
        | false => exact absurd ((bt_0 hO31 (by omega)).mpr (by rw [hob]; exact z)) q
      obtain ⟨f1, f2⟩ := hf i (by omega) q1
      rw [f1, x_bar hR hm (show i < 8 by omega)]
      have h31 : msk (fun b => bar D hb m i b) 8 < 2 ^ 31 := Nat.lt_trans (msk8 _) (by decide)
      have hbit := mskI (fun b => bar D hb m i b) (f i) f2
      have hth := ih (i + 1) (by omega)
      rw [hst, q1] at hth
      refine ⟨fun q2 => ?_, fun q2 => ?_⟩
      · have : bar D hb m i (f i) = true := by
          cases z : bar D hb m i (f i) with
          | true => rfl
          | false => exact absurd ((bt_0 h31 (by omega)).mpr (by rw [hbit]; exact z)) q2
        rw [this] at hth; exact hth
      · have q3 := (bt_0 h31 (by omega)).mp q2
        rw [hbit] at q3
        rw [q3] at hth
        have hlt := msk_lt (fun a => isO h a && !bar D hb m a (f a)) i
        have e5 : msk (fun a => isO h a && !bar D hb m a (f a)) i ||| 2 ^ i = msk (fun a => isO h a && !bar D hb m a (f a)) i + 2 ^ i := by
          have z := Nat.two_pow_add_eq_or_of_lt hlt 1
          rw [Nat.mul_one] at z
          rw [Nat.or_comm, ← z, Nat.add_comm]
        rw [one_shl (by omega), tI_or, e5]
        exact hth
theorem x_reachAll {Φ : Int32 → hv_S → Prop} {y : Nat} (hR : RX D hb It σ) (hm : m < 3) (hW : hWF D) (hO : ehO D m h) (hB : spB σ (D 0 0) m (ordM (pfD D hb m) h)) (hg : spG σ (gF (pfD D hb m) h) (ordM (pfD D hb m) h)) (hy : y < 2 ^ 31)
    (k : ∀ v σ', SE σ σ' → (∀ j, σ'.1 18 j = σ.1 18 j) → spG σ' (gF (pfD D hb m) h) (ordM (pfD D hb m) h) → (allR (D 0 0) (GW (pfD D hb m) h y) ∧ v = 1 ∨ ¬ allR (D 0 0) (GW (pfD D hb m) h y) ∧ v = 0) → Φ v σ') : hv_CI l (hv_e1 e) 1 m_X5_reachAll [.ref 18, .int (nI y)] σ Φ := by
  have hn := hW.1
  refine B_X5_reachAll _ ?_
  suffices ∀ d i σ', i + d = D 0 0 → SE σ σ' → (∀ j, σ'.1 18 j = σ.1 18 j) → spG σ' (gF (pfD D hb m) h) (ordM (pfD D hb m) h) → (∀ a, a < i → isO h a = true → σ'.1 20 a = nI (2 ^ (nmY h y a))) → L_X5_reachAll_2 l e Φ (nI y) (nI i) σ' by
    exact this (D 0 0) 0 σ (by omega) (SE.refl σ) (fun _ => rfl) hg (fun a ha => by omega)
  intro d
  induction d with
  | zero =>
    intro i σ' hi hS h18 hg' hw
    have hin : i = D 0 0 := by omega
    have hR' := hR.of hS.1
    have hB' := hB.of hS
    refine B_X5_reachAll_2 _ _ ⟨fun _ => ?_, fun q => absurd (by rw [hR'.1.1, hin]; exact nI_le (Nat.le_refl _) (by omega)) q⟩
    have hSP : msk (fun a => decide (0 < gF (pfD D hb m) h a a)) 8 < 2 ^ (D 0 0) := lt_bits (fun j hj => by
      rw [msk_bit]
      by_cases h8 : j < 8
      · have : gF (pfD D hb m) h j j = 0 := if_neg (fun z => Nat.not_lt.mpr hj z.1)
        simp [this]
      · simp [h8])
    have hdg : ∀ a, a < D 0 0 → (0 < gF (pfD D hb m) h a a ↔ 0 < GW (pfD D hb m) h y a a) := fun a ha => by
      unfold gF GW
      cases ho : isO h a with
      | true =>
        obtain ⟨-, -, o3, o4, o5, o6⟩ := hO a ha ho
        have : ¬ a = nmY h y a := by unfold nmY; split <;> omega
        simp [pt, this]
      | false => simp [show a < (pfD D hb m).1 from ha]
    refine x_reaching (n := D 0 0) (G := GW (pfD D hb m) h y) (SP := msk (fun a => decide (0 < gF (pfD D hb m) h a a)) 8) (OW := fun a => if isO h a = true then 2 ^ (nmY h y a) else msk (fun b => decide (b ≠ a ∧ 0 < gF (pfD D hb m) h a b)) 8)
      ⟨hn, hR'.1.1, hSP, fun a ha => ?_, fun a ha => ?_, fun a b ha hb' hab => ?_⟩ hg'.2.1 (fun R hRl hRb => ?_)
    · rw [mskI _ a (by omega)]; simp only [decide_eq_true_eq]; exact hdg a ha
    · cases ho : isO h a with
      | true =>
        obtain ⟨-, -, o3, o4, o5, o6⟩ := hO a ha ho
        simp only [ho, if_true]
        refine ⟨hw a (by omega) ho, ?_⟩
        have : nmY h y a < 8 := by unfold nmY; split <;> omega
        exact Nat.pow_lt_pow_right (a := 2) (m := nmY h y a) (n := 8) (by decide) this
      | false =>
        simp only [ho, Bool.false_eq_true, if_false]
        refine ⟨?_, msk8 _⟩
        exact hg'.2.2 a (by omega) (by rw [ordM_b, ho]; simp)
    · simp only []
      cases ho : isO h a with
      | true =>
        simp only [if_true]
        rw [tb_2]
        unfold GW
        rw [if_pos ho]
        unfold pt
        by_cases q : nmY h y a = b
        · simp [q]
        · simp [q, show ¬ b = nmY h y a from fun z => q z.symm]
      | false =>
        simp only [Bool.false_eq_true, if_false]
        rw [mskI _ b (by omega)]
        unfold GW gF
        simp [ho, show a < (pfD D hb m).1 from ha, show ¬ b = a from fun z => hab z.symm]
    · have e6 : σ'.1 18 6 = nI (2 ^ D 0 0 - 1) := hB'.2.2.1
      have p31 : 2 ^ D 0 0 ≤ 2 ^ 8 := Nat.pow_le_pow_right (by decide) hn
      have hall : R = 2 ^ D 0 0 - 1 ↔ allR (D 0 0) (GW (pfD D hb m) h y) := by
        constructor
        · intro q a ha
          refine (hRb a ha).mp ?_
          rw [q, tb_full]; simpa using ha
        · intro q
          refine tb_ext hRl (by have := Nat.two_pow_pos (D 0 0); omega) (fun a ha => ?_)
          rw [tb_full, (hRb a ha).mpr (q a ha)]; simp [ha]
      refine ⟨fun q => k 0 σ' hS h18 hg' (Or.inr ⟨fun z => q ?_, rfl⟩), fun q => k 1 σ' hS h18 hg' (Or.inl ⟨hall.mp ?_, rfl⟩)⟩
      · rw [e6, hall.mpr z]
      · rw [e6] at q
        exact (nI_eq (by omega) (by omega)).mp q
  | succ d ih =>
    intro i σ' hi hS h18 hg' hw
    have hR' := hR.of hS.1
    have hB' := hB.of hS
    have hO31 : ordM (pfD D hb m) h < 2 ^ 31 := Nat.lt_of_lt_of_le (msk_lt _ _) (Nat.pow_le_pow_right (by decide) (show D 0 0 ≤ 31 by omega))
    have hob : (ordM (pfD D hb m) h).testBit i = isO h i := by rw [ordM_b]; simp [show i < (pfD D hb m).1 from (by show i < D 0 0; omega)]
    refine B_X5_reachAll_2 _ _ ⟨fun q => absurd q (by rw [hR'.1.1]; exact nI_ge (by omega) (by omega)), fun _ => ?_⟩
    rw [hB'.2.2.2, nI_1]
    refine ⟨fun q => ?_, fun q => ?_⟩
    · have q1 := (bt_0 hO31 (by omega)).mp q
      rw [hob] at q1
      refine ih (i + 1) σ' (by omega) hS h18 hg' (fun a ha ho => ?_)
      by_cases ea : a = i
      · subst ea; rw [q1] at ho; cases ho
      · exact hw a (by omega) ho
    · have q1 : isO h i = true := by
        cases z : isO h i with
        | true => rfl
        | false => exact absurd ((bt_0 hO31 (by omega)).mpr (by rw [hob]; exact z)) q
      obtain ⟨-, -, o3, o4, o5, o6⟩ := hO i (by omega) q1
      have hnm : nmY h y i < 8 := by unfold nmY; split <;> omega
      refine x_nameOf hR' hm hW hO hB' (by omega) q1 hy ⟨vp_in_nI (by omega) (by decide), ?_⟩
      rw [nI_clamp (by omega), one_shl (by omega)]
      have hS2 : SE σ' (hv_ui σ' 20 i (nI (2 ^ nmY h y i))) := ⟨XE.ui (by decide), fun j _ => rfl, fun k' hk j => by rw [ui_1, if_neg (fun z => by omega)], rfl⟩
      refine ih (i + 1) _ (by omega) (hS.trans hS2) (fun j => by rw [ui_1, if_neg (fun z => by omega)]; exact h18 j) ⟨fun a b ha hb' => ?_, ?_, fun a ha hq => ?_⟩ (fun a ha ho => ?_)
      · rw [ui_1, if_neg (fun z => by omega)]; exact hg'.1 a b ha hb'
      · rw [ui_1, if_neg (fun z => by omega)]; exact hg'.2.1
      · rw [ui_1]
        by_cases ea : a = i
        · subst ea
          rw [hob, q1] at hq; cases hq
        · rw [if_neg (fun z => ea z.2)]; exact hg'.2.2 a ha hq
      · rw [ui_1]
        by_cases ea : a = i
        · subst ea; rw [if_pos ⟨rfl, rfl⟩]
        · rw [if_neg (fun z => ea z.2)]; exact hw a (by omega) ho
end WB
