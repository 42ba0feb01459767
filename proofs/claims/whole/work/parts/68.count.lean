-- few, turning, power, best
def lsB (s : Nat) : Option Nat → Bool
  | none => true
  | some z => decide (pop 8 s < pop 8 z)
/-- the first of the smallest sets below s that decide -/
noncomputable def feS (D : hD) (hb : hB) (m : Nat) : Nat → Option Nat
  | 0 => none
  | s + 1 => if dcC D hb m (D 0 1) 0 s = true ∧ lsB s (feS D hb m s) = true then some s else feS D hb m s
theorem ehS0 (h : hEH) : ehS 0 h = h := by
  funext a
  unfold ehS
  rw [Nat.zero_testBit]
  rfl
section R
variable {l : Launch} {e : hv_Ev} {σ : hv_S} {D : hD} {hb : hB} {It : hT}
theorem x_reckonB {Φ : hv_S → Prop} {m : Nat} (hR : RX D hb It σ) (hm : m < 3) (hW : hWF D) (k : ∀ σ' W v, rkI D hb m (D 0 1) 0 none σ σ' W v → spB σ' (D 0 0) m (ordM (pfD D hb m) (hL D m (D 0 1) 0 none)) → Φ σ') :
    hv_CV l (hv_e1 e) 6 m_X6_reckonNow [.ref 21, .int (nI m)] σ Φ := by
  refine B_X6_reckonNow _ ?_
  rw [hR.1.2.1]
  refine B_X6_reckon _ _ _ _ _ (x_lay (S := 0) (gt := none) hR hm hW hW.2.1 (by decide) gtW0 (fun σ1 hX1 hB1 hg1 => ?_))
  refine x_weigh (G := GX D hb m (D 0 1) 0 none) (hR.of hX1) hW rfl (GX_row hW hm gtW0) hg1 (fun σ2 W v hX2 hk hv hW8 ht => k σ2 W v ⟨hX1.trans hX2, hv, hW8, ht, fun a b ha hb' => ?_⟩ ⟨?_, ?_, ?_, ?_⟩)
  · rw [hk 19 (by decide)]; exact hg1.1 a b ha hb'
  · rw [hk 18 (by decide)]; exact hB1.1
  · rw [hk 18 (by decide)]; exact hB1.2.1
  · rw [hk 18 (by decide)]; exact hB1.2.2.1
  · rw [hk 18 (by decide)]; exact hB1.2.2.2
theorem rk_d (hW : hWF D) {m : Nat} (hm : m < 3) {σ' : hv_S} {W : Int} {v : Nat → Int} (h : rkI D hb m (D 0 1) 0 none σ σ' W v) (Y : Nat) : dcd D v Y = dcC D hb m (D 0 1) 0 Y := dcd_inv (rk_c hW hm gtW0 h) Y
theorem bI_0 (b : Bool) : bI b = 0 ↔ b = false := by cases b <;> decide
theorem x_few {Φ : Int32 → hv_S → Prop} (hR : RX D hb It σ) (hW : hWF D) (x : Int32) (k : ∀ σ', XF σ σ' → Φ (an1 3 x (fun m => oR (feS D hb m (2 ^ D 0 0))) (-1)) σ') : hv_CI l (hv_e1 e) 7 m_X9_few [.ref 0, .int x] σ Φ := by
  have hn := hW.1
  have p8 : 2 ^ D 0 0 ≤ 2 ^ 8 := Nat.pow_le_pow_right (by decide) hn
  refine B_X9_few _ (x_isMatter x (fun h => ⟨fun q => absurd rfl q, fun _ => ?_⟩) (fun m hm hx => ⟨fun _ => ?_, fun q => absurd q (by decide)⟩))
  · have := k σ (XF.refl σ); rw [an1_out (by omega) h] at this; exact this
  · subst hx
    refine x_reckonB hR hm hW (fun σ1 W v h1 hB => ?_)
    have hE : σ1.1 18 6 = nI (2 ^ D 0 0 - 1) := hB.2.2.1
    have hp := Nat.two_pow_pos (D 0 0)
    suffices ∀ d s, s + d = 2 ^ D 0 0 → L_X9_few_26 l e Φ (oR (feS D hb m s)) (bw9 (feS D hb m s)) (nI s) σ1 by exact this (2 ^ D 0 0) 0 (by omega)
    intro d
    induction d with
    | zero =>
      intro s hs
      have := k σ1 h1.1.w
      rw [an1_in (by omega) hm] at this
      have hs2 : s = 2 ^ D 0 0 := by omega
      subst hs2
      exact B_X9_few_26 _ _ _ ⟨fun _ => this, fun q => absurd (by rw [hE]; exact nI_lt (by omega) (by omega)) q⟩
    | succ d ih =>
      intro s hs
      have eS : feS D hb m (s + 1) = if dcC D hb m (D 0 1) 0 s = true ∧ lsB s (feS D hb m s) = true then some s else feS D hb m s := rfl
      have hpz := pop_le s 8
      have hth := ih (s + 1) (by omega)
      have hbw : bw9 (feS D hb m s) ≤ nI (pop 8 s) ↔ lsB s (feS D hb m s) = false := by
        cases hf : feS D hb m s with
        | none => exact ⟨fun q => absurd q (nI_ge (b := 9) (by omega) (by decide)), fun q => absurd q (by show ¬ true = false; decide)⟩
        | some z =>
          show nI (pop 8 z) ≤ nI (pop 8 s) ↔ decide (pop 8 s < pop 8 z) = false
          have := pop_le z 8
          rw [nI_leI (by omega) (by omega), decide_eq_false_iff_not, Nat.not_lt]
      refine B_X9_few_26 _ _ _ ⟨fun q => by rw [hE] at q; exact absurd ((nI_ltI (by omega) (by omega)).mp q) (by omega), fun _ => j_bitCount (by omega) ?_⟩
      rw [hbw, nI_1]
      refine ⟨fun q => ?_, fun q => ?_⟩
      · rw [eS, if_neg (fun c => by rw [q] at c; exact absurd c.2 (by decide))] at hth
        exact hth
      · refine x_says (Y := s) hR hW h1 (by omega) ?_
        rw [rk_d hW hm h1, bI_0]
        refine ⟨fun q2 => ?_, fun q2 => ?_⟩
        · rw [eS, if_neg (fun c => by rw [q2] at c; exact absurd c.1 (by decide))] at hth
          exact hth
        · rw [eS, if_pos ⟨by simpa using q2, by simpa using q⟩] at hth
          exact hth
theorem x_turning {Φ : Int32 → hv_S → Prop} (hR : RX D hb It σ) (hW : hWF D) (x : Int32) (k : ∀ σ', XF σ σ' → Φ (an1 3 x (fun m => nI (trM D hb m)) (-1)) σ') : hv_CI l (hv_e1 e) 7 m_X9_turning [.ref 0, .int x] σ Φ := by
  have hn := hW.1
  refine B_X9_turning _ (x_isMatter x (fun h => ⟨fun q => absurd rfl q, fun _ => ?_⟩) (fun m hm hx => ⟨fun _ => ?_, fun q => absurd q (by decide)⟩))
  · have := k σ (XF.refl σ); rw [an1_out (by omega) h] at this; exact this
  · subst hx
    refine x_reckonB hR hm hW (fun σ1 W v h1 hB => ?_)
    have hR1 := hR.of h1.1
    have hy := yeM_lt D m
    have hxor : ∀ i, i < 8 → yeM D m ^^^ 2 ^ i < 2 ^ 8 := fun i hi => Nat.xor_lt_two_pow hy (Nat.pow_lt_pow_right (by decide) hi)
    have eY : σ1.1 2 m = nI (yeM D m) := hR1.1.2.2.1 m hm
    rw [nI_clamp (by omega), eY]
    refine ⟨vp_in_nI hm (by decide), x_says (Y := yeM D m) hR hW h1 (by omega) ?_⟩
    rw [rk_d hW hm h1]
    obtain ⟨p, hp⟩ : ∃ p : Nat → Bool, p = fun a => dcC D hb m (D 0 1) 0 (yeM D m) != dcC D hb m (D 0 1) 0 (yeM D m ^^^ 2 ^ a) := ⟨_, rfl⟩
    suffices ∀ d i, i + d = D 0 0 → L_X9_turning_49 l e Φ (nI (yeM D m)) (bI (dcC D hb m (D 0 1) 0 (yeM D m))) (nI (msk p i)) (nI i) σ1 by exact this (D 0 0) 0 (by omega)
    intro d
    induction d with
    | zero =>
      intro i hi
      have hin : i = D 0 0 := by omega
      subst hin
      have := k σ1 h1.1.w
      rw [an1_in (by omega) hm] at this
      unfold trM at this
      rw [← hp] at this
      exact B_X9_turning_49 _ _ _ _ ⟨fun _ => this, fun q => absurd (by rw [hR1.1.1]; exact nI_le (Nat.le_refl _) (by omega)) q⟩
    | succ d ih =>
      intro i hi
      have hth := ih (i + 1) (by omega)
      refine B_X9_turning_49 _ _ _ _ ⟨fun q => absurd q (by rw [hR1.1.1]; exact nI_ge (by omega) (by omega)), fun _ => ?_⟩
      rw [one_shl (by omega), tI_xor, tI_or, nI_1]
      have hx8 := hxor i (by omega)
      refine x_says (Y := yeM D m ^^^ 2 ^ i) hR hW h1 (by omega) ?_
      rw [rk_d hW hm h1, bI_eq]
      refine ⟨fun q => ?_, fun q => ?_⟩
      · rw [msk_step (p := p) (i := i) (by rw [hp]; simp [q])] at hth
        exact hth
      · rw [← msk_stepT (p := p) (i := i) (by rw [hp]; simp only [bne_iff_ne, ne_eq]; exact fun c => q c.symm)] at hth
        exact hth
theorem ysm_or {v : Nat → Int} {s a n : Nat} (ha : a < n) (h : s.testBit a = false) : ysm v (s ||| 2 ^ a) n = ysm v s n + v a := by
  have e1 : sumI (fun j => if j = a then v a else 0) n = v a := by
    rw [sumI_one (k := a) ha (fun j _ hne => if_neg hne), if_pos rfl]
  unfold ysm
  rw [← e1, ← sumI_add]
  refine sumI_congr (fun j hj => ?_)
  rw [tb_or2]
  by_cases c : j = a
  · subst c; rw [h]; simp
  · simp [show ¬ a = j from fun q => c q.symm, c]
theorem sub_le {s A : Nat} (hs : s < 2 ^ 32) (h : mns s A = 0) : s ≤ A := by
  have h1 := (mns0 hs A).mp h
  have h2 := sub_and.mpr h1
  rw [← h2]
  exact Nat.and_le_right
theorem x_power {Φ : Int32 → hv_S → Prop} (hR : RX D hb It σ) (hW : hWF D) (x y : Int32) (k : ∀ σ', XF σ σ' → Φ (pwA D hb x y) σ') : hv_CI l (hv_e1 e) 7 m_X9_power [.ref 0, .int x, .int y] σ Φ := by
  have hn := hW.1
  have p8 : 2 ^ D 0 0 ≤ 2 ^ 8 := Nat.pow_le_pow_right (by decide) hn
  refine B_X9_power _ _ (x_sits hR hW x (fun h => ⟨fun _ => ?_, fun q => absurd rfl q⟩) (fun a ha hx => ⟨fun q => absurd q (by decide), fun _ => x_isMatter y (fun h => ⟨fun q => absurd rfl q, fun _ => ?_⟩) (fun m hm hy => ⟨fun _ => ?_, fun q => absurd q (by decide)⟩)⟩))
  · have := k σ (XF.refl σ); unfold pwA at this; rw [an1_out (by omega) h] at this; exact this
  · have := k σ (XF.refl σ); unfold pwA at this; rw [hx, an1_in (by omega) ha, an1_out (by omega) h] at this; exact this
  · subst hx
    subst hy
    refine x_reckonB hR hm hW (fun σ1 W v h1 hB => ?_)
    have hR1 := hR.of h1.1
    have hvb := rk_b h1
    refine x_withVoices (v := v) hR1.1.1 hn h1.2.2.2.1.2.2 hvb ?_
    rw [one_shl (by omega), mns_I, vts_inv (rk_c hW hm gtW0 h1)]
    have hk := k σ1 h1.1.w
    unfold pwA at hk
    rw [an1_in (by omega) ha, an1_in (by omega) hm] at hk
    show L_X9_power_48 l e Φ (nI a) (nI (othM D hb m a)) 0 0 σ1
    have hOl : othM D hb m a < 2 ^ D 0 0 := mns_lt (msk_lt _ _) _
    have hOa : (othM D hb m a).testBit a = false := by
      unfold othM
      rw [mns_b (Nat.lt_of_lt_of_le (msk_lt _ _) (Nat.le_trans p8 (by decide))), tb_2]; simp
    have pw0 : ∀ d s, othM D hb m a < s → s + d ≤ 2 ^ D 0 0 → pwS D hb m a (s + d) = pwS D hb m a s := by
      intro d
      induction d with
      | zero => intro s _ _; rfl
      | succ d ih =>
        intro s hs hd
        have e1 : pwS D hb m a (s + (d + 1)) = pwS D hb m a (s + d) + if mns (s + d) (othM D hb m a) = 0 ∧ dcC D hb m (D 0 1) 0 ((s + d) ||| 2 ^ a) ≠ dcC D hb m (D 0 1) 0 (s + d) then 1 else 0 := rfl
        rw [e1, ih s hs (by omega), if_neg (fun c => by have := sub_le (by omega) c.1; omega)]
        rfl
    have hpe : pwS D hb m a (2 ^ D 0 0) = pwS D hb m a (othM D hb m a + 1) := by
      have := pw0 (2 ^ D 0 0 - (othM D hb m a + 1)) (othM D hb m a + 1) (by omega) (by omega)
      rw [show othM D hb m a + 1 + (2 ^ D 0 0 - (othM D hb m a + 1)) = 2 ^ D 0 0 by omega] at this
      exact this
    rw [hpe] at hk
    suffices ∀ d s, s + d = othM D hb m a + 1 → L_X9_power_48 l e Φ (nI a) (nI (othM D hb m a)) (nI (pwS D hb m a s)) (nI s) σ1 by exact this (othM D hb m a + 1) 0 (by omega)
    intro d
    induction d with
    | zero =>
      intro s hs
      have hs2 : s = othM D hb m a + 1 := by omega
      subst hs2
      exact B_X9_power_48 _ _ _ _ ⟨fun _ => hk, fun q => absurd (nI_lt (by omega) (by omega)) q⟩
    | succ d ih =>
      intro s hs
      have hth := ih (s + 1) (by omega)
      have eS : pwS D hb m a (s + 1) = pwS D hb m a s + if mns s (othM D hb m a) = 0 ∧ dcC D hb m (D 0 1) 0 (s ||| 2 ^ a) ≠ dcC D hb m (D 0 1) 0 s then 1 else 0 := rfl
      have hmn : mns s (othM D hb m a) < 2 ^ 8 := mns_lt (by omega) _
      refine B_X9_power_48 _ _ _ _ ⟨fun q => absurd ((nI_ltI (by omega) (by omega)).mp q) (by omega), fun _ => ?_⟩
      rw [mns_I, nI_1]
      refine ⟨fun q => ?_, fun q => ?_⟩
      · have q1 : mns s (othM D hb m a) = 0 := (nI_eq (b := 0) (by omega) (by decide)).mp q
        have hsa : s.testBit a = false := by
          cases c : s.testBit a with
          | false => rfl
          | true => have := (mns0 (by omega) _).mp q1 a c; rw [hOa] at this; cases this
        refine x_sumOf (v := v) hR1.1.1 hn h1.2.2.2.1.2.2 (by omega) ⟨vp_in_nI (by omega) (by decide), ?_⟩
        rw [nI_clamp (by omega), h1.2.2.2.1.2.2 a (by omega), lZ_add]
        have e1 : sumI (fun j => if s.testBit j = true then v j else 0) (D 0 0) + v a = ysm v (s ||| 2 ^ a) (D 0 0) := (ysm_or ha hsa).symm
        rw [e1]
        have hD : ∀ Y, dcC D hb m (D 0 1) 0 Y = true ↔ (D 0 4 : Int) * sumI v (D 0 0) < (D 0 5 : Int) * ysm v Y (D 0 0) := fun Y => by
          rw [← rk_d hW hm h1]; unfold dcd ysm; exact decide_eq_true_iff
        have key : ∀ (Ψ : Int32 → hv_S → Prop) (Y : Nat), Ψ (bI (dcC D hb m (D 0 1) 0 Y)) σ1 → hv_CI l (hv_e1 e) 0 m_X6_decides [.ref 21, .long (lZ (ysm v Y (D 0 0)))] σ1 Ψ := fun Ψ Y hΨ => by
          refine x_decides (X := sumI v (D 0 0)) hR1 hW h1.2.2.2.1.2.1 (rk_sum hn h1) (rk_ysm hn h1 Y) (fun c => ?_) (fun c => ?_)
          · have : dcC D hb m (D 0 1) 0 Y = false := by
              cases z : dcC D hb m (D 0 1) 0 Y with
              | false => rfl
              | true => exact absurd ((hD Y).mp z) c
            rw [this] at hΨ; exact hΨ
          · rw [(hD Y).mpr c] at hΨ; exact hΨ
        refine key _ (s ||| 2 ^ a) (key _ s ?_)
        rw [bI_eq, nI_1]
        refine ⟨fun q2 => ?_, fun q2 => ?_⟩
        · rw [eS, if_neg (fun c => c.2 q2)] at hth; exact hth
        · rw [eS, if_pos ⟨q1, q2⟩] at hth; exact hth
      · rw [eS, if_neg (fun c => q (by rw [c.1]; rfl))] at hth; exact hth
theorem x_best {Φ : Int32 → hv_S → Prop} (hR : RX D hb It σ) (hW : hWF D) (x y : Int32) (k : ∀ σ', XF σ σ' → Φ (beA D hb x y) σ') : hv_CI l (hv_e1 e) 4 m_X9_best [.ref 0, .int x, .int y] σ Φ := by
  have hn := hW.1
  have p8 : 2 ^ D 0 0 ≤ 2 ^ 8 := Nat.pow_le_pow_right (by decide) hn
  suffices hmain : ∀ m, m < 3 → x = nI m → (y = -1 ∨ ∃ a, a < D 0 0 ∧ y = nI a) → L_X9_best_25 l e Φ x y σ by
    refine B_X9_best _ _ (x_isMatter x (fun h => ⟨fun _ => ?_, fun q => absurd rfl q⟩) (fun m hm hx => ⟨fun q => absurd q (by decide), fun _ => ⟨fun q => hmain m hm hx (Or.inl q), fun q => x_sits hR hW y (fun h => ⟨fun q => absurd rfl q, fun _ => ?_⟩) (fun a ha hy => ⟨fun _ => hmain m hm hx (Or.inr ⟨a, ha, hy⟩), fun q => absurd q (by decide)⟩)⟩⟩))
    · have := k σ (XF.refl σ); unfold beA at this; rw [an1_out (by omega) h] at this; exact this
    · have := k σ (XF.refl σ); unfold beA at this; rw [hx, an1_in (by omega) hm, if_neg q, an1_out (by omega) h] at this; exact this
  intro m hm hx hy
  subst hx
  unfold beA at k
  rw [an1_in (by omega) hm] at k
  refine B_X9_best_25 _ _ ?_
  rw [hR.1.2.1]
  refine x_layFirm (S := 0) (gt := none) hR hm hW hW.2.1 (by decide) gtW0 (fun σ1 hX hB hg => ?_)
  have hL0 : hL D m (D 0 1) 0 none = ehD D m (D 0 1) := ehS0 _
  have hO : ehO D m (hL D m (D 0 1) 0 none) := hL_O hW hm
  rw [hL0] at hB hg hO
  have hO8 : ordM (pfD D hb m) (ehD D m (D 0 1)) < 2 ^ D 0 0 := msk_lt _ _
  have hseek : (∀ σ2, XE σ σ2 → σ2.1 18 9 = nI (cnt (pfD D hb m) (ehD D m (D 0 1))) → σ2.1 18 10 = oI (bst (pfD D hb m) (ehD D m (D 0 1))) → ((y ≠ -1 → ((0 ≤ σ2.1 18 10 → Φ (((σ2.1 18 10) >>> (y &&& 31)) &&& 1) σ2) ∧ (¬ 0 ≤ σ2.1 18 10 → Φ (-5) σ2))) ∧ (y = -1 → Φ (σ2.1 18 9) σ2))) → L_X9_best_64 l e Φ y σ1 := fun hk =>
    B_X9_best_64 _ (x_seekWays (Or.inr rfl) (hR.of hX) hm hW hO hB (hg.weak (fun a _ _ => Nat.zero_testBit a)) (fun σ2 hS _ h9 h10 => hk σ2 (hX.trans hS.1) (h9 rfl) h10))
  refine ⟨fun q => hseek (fun σ2 hX2 h9 h10 => ⟨fun q2 => absurd q q2, fun _ => ?_⟩), fun q => ?_⟩
  · have := k σ2 hX2.w
    rw [if_pos q] at this
    rw [h9]; exact this
  · rcases hy with hy | ⟨a, ha, hy⟩
    · exact absurd hy q
    · subst hy
      rw [hB.2.2.2]
      have hob : (ordM (pfD D hb m) (ehD D m (D 0 1))).testBit a = isO (ehD D m (D 0 1)) a := by rw [ordM_b]; simp [show a < (pfD D hb m).1 from ha]
      refine ⟨fun q2 => hseek (fun σ2 hX2 h9 h10 => ⟨fun _ => ?_, fun q3 => absurd q3 q⟩), fun q2 => ?_⟩
      · have q3 : isO (ehD D m (D 0 1)) a = true := by
          rw [← hob]
          cases c : (ordM (pfD D hb m) (ehD D m (D 0 1))).testBit a with
          | true => rfl
          | false => exact absurd ((bt_0 (by omega) (by omega)).mpr c) q2
        have hk := k σ2 hX2.w
        rw [if_neg q, an1_in (by omega) ha, if_pos q3] at hk
        rw [h10]
        cases hbs : bst (pfD D hb m) (ehD D m (D 0 1)) with
        | none => rw [hbs] at hk; exact ⟨fun q4 => absurd q4 (by show ¬ 0 ≤ (-5 : Int32); decide), fun _ => hk⟩
        | some w =>
          rw [hbs] at hk
          have hw := (bstY_ok hbs).2
          refine ⟨fun _ => ?_, fun q4 => absurd (nI_pos' (by omega)) q4⟩
          show Φ ((nI w >>> (nI a &&& 31)) &&& 1) σ2
          rw [bt_v (by omega) (by omega)]
          exact hk
      · have q3 : ¬ isO (ehD D m (D 0 1)) a = true := by
          rw [← hob, (bt_0 (by omega) (by omega)).mp q2]; decide
        have hk := k σ1 hX.w
        rw [if_neg q, an1_in (by omega) ha, if_neg q3] at hk
        exact hk
end R
