-- THE REFERENCE: who would rather, settling
section RW
variable {l : Launch} {e : hv_Ev} {σ : hv_S} {D : hD} {hb : hB} {It : hT}
theorem y_tryTail {Φ : Int32 → hv_S → Prop} {D' : hD} {m a : Nat} {x T A W C : Int} {v c : Nat → Int} (hR : RM D' hb It σ) (hW : hWF D) (hW' : hWF D') (hm : m < 3) (ha : a < D 0 0) (e0 : ∀ i, (i = 0 ∨ 6 ≤ i) → ∀ j, D' i j = D i j) (eo : ∀ i c, c ≠ 8 * m + a → D' i c = D i c) (hk : kI D (8 * m + a) σ)
    (hv : vmI σ (D 0 0) W v) (hp : prp W v C c) (hT : 0 < T ∧ T ≤ 100000000) (hx : 0 ≤ x ∧ x ≤ 100000000) (ex : x * 100000000 = A * T) (k : ∀ σ', RM D hb It σ' → Φ (bI (decide (A < cha D m c))) σ') :
    hv_CV l (hv_e2 e) 2 m_X10_findRight [.ref 60, .int (nI m)] σ (fun s24 => hv_CV l (hv_e2 e) 1 m_X10_putBack [.ref 60, .int (nI a), .int (nI m)] s24 (fun s27 => hv_CI l (hv_e2 e) 1 m_X10_isLess [.ref 60, .long (lZ x), .long (lZ T), .long (s27.2.1 60 42), .long (s27.2.1 60 43)] s27 (fun v31 s30 => Φ v31 s30))) := by
  have n0 : D' 0 0 = D 0 0 := e0 0 (Or.inl rfl) 0
  refine y_findRight hR hW' hm (by rw [n0]; exact hv) (fun σ1 hF hR1 hg1 => ?_)
  refine y_putBack hR1 hW hm ha e0 eo (hk.of (fun j => by rw [hF.1])) (fun σ2 hE hR2 => ?_)
  obtain ⟨s1, s2, s3⟩ := chn_same (D := D) (D' := D') (m := m) v e0
  obtain ⟨g1, g2⟩ := hg1.he hE.1
  rw [s1] at g1
  rw [s2] at g2
  obtain ⟨c1, c2, c3, c4, c5⟩ := chn_cha hW hm hp
  rw [g1, g2]
  refine y_isLess ⟨hx.1, by omega⟩ ⟨hT.1, by omega⟩ ⟨c4, by omega⟩ ⟨c2, by omega⟩ ?_
  rw [decide_eq_decide.mpr (lik_lt hT.1 c2 ex c1)]
  exact k σ2 hR2
theorem y_ratherOf {Φ : Int32 → hv_S → Prop} {m : Nat} (hR : RM D hb It σ) (hW : hWF D) (hm : m < 3) (k : ∀ σ', RM D hb It σ' → Φ (oR (wish D hb m)) σ') : hv_CI l (hv_e2 e) 13 m_X10_ratherOf [.ref 60, .int (nI m)] σ Φ := by
  have hn := hW.1
  refine B_X10_ratherOf _ (y_now hR hW hm (fun σ1 W v _ hR1 h1 => y_findRight hR1 hW hm h1.2.2.2 (fun σ2 _ hR2 hg2 => ?_)))
  obtain ⟨c1, c2, c3, c4, c5⟩ := chn_cha hW hm (uv_c hW hm h1)
  rw [hg2.1, hg2.2]
  generalize hx : chn D m v = x at *
  generalize hT : (10 : Int) ^ pop 8 (vts D v) = T at *
  have eB : cha D m (cnV D hb m (D 0 1) 0 none).2 = chC D hb m 0 none := rfl
  rw [eB] at c1
  unfold wish at k
  generalize chC D hb m 0 none = B at *
  suffices ∀ d i σ', i + d = D 0 0 → RM D hb It σ' → (∀ σ', RM D hb It σ' → Φ (oR (wsI D hb m B d i)) σ') → L_X10_ratherOf_28 l e Φ (nI m) (lZ x) (lZ T) (nI i) σ' by exact this (D 0 0) 0 σ2 (by omega) hR2 k
  intro d
  induction d with
  | zero =>
    intro i σ' hi hR' k
    exact B_X10_ratherOf_28 _ _ _ _ ⟨fun _ => k σ' hR', fun q => absurd (by rw [hR'.1.1, show i = D 0 0 by omega]; exact nI_le (Nat.le_refl _) (by omega)) q⟩
  | succ d ih =>
    intro i σ' hi hR' k
    have hi' : i < D 0 0 := by omega
    have eI : wsI D hb m B (d + 1) i = if B < chC D hb m (2 ^ i) none then some (10 * i) else (wsJ D hb m B i (D 0 0) 0).or (wsI D hb m B d (i + 1)) := rfl
    refine B_X10_ratherOf_28 _ _ _ _ ⟨fun q => absurd q (by rw [hR'.1.1]; exact nI_ge (by omega) (by omega)), fun _ => ?_⟩
    -- the names
    have names : ∀ g j σ', j + g = D 0 0 → RM D hb It σ' → (∀ σ', RM D hb It σ' → Φ (oR ((wsJ D hb m B i g j).or (wsI D hb m B d (i + 1)))) σ') → L_X10_ratherOf_40 l e Φ (nI m) (lZ x) (lZ T) (nI i) (nI (j + 1)) σ' := by
      intro g
      induction g with
      | zero =>
        intro j σ' hj hR' k
        refine B_X10_ratherOf_40 _ _ _ _ _ ⟨fun _ => ?_, fun q => absurd (by rw [hR'.1.1]; exact nI_lt (by omega) (by omega)) q⟩
        rw [nI_1]
        exact ih (i + 1) σ' (by omega) hR' k
      | succ g ihg =>
        intro j σ' hj hR' k
        have hj' : j < D 0 0 := by omega
        have eJ : wsJ D hb m B i (g + 1) j = if j ≠ i ∧ bar D hb m i j = false ∧ B < chC D hb m 0 (some (i, j)) then some (10 * i + j + 1) else wsJ D hb m B i g (j + 1) := rfl
        have skip : ¬ (j ≠ i ∧ bar D hb m i j = false ∧ B < chC D hb m 0 (some (i, j))) → ∀ σ', RM D hb It σ' → L_X10_ratherOf_40 l e Φ (nI m) (lZ x) (lZ T) (nI i) (nI (j + 1) + 1) σ' := fun q σ' hR' => by
          rw [eJ, if_neg q] at k
          rw [nI_1]
          exact ihg (j + 1) σ' (by omega) hR' k
        refine B_X10_ratherOf_40 _ _ _ _ _ ⟨fun q => absurd q (by rw [hR'.1.1]; exact nI_nlt (by omega) (by omega)), fun _ => ?_⟩
        rw [nI_pred, nI_eq (by omega) (by omega)]
        refine ⟨fun q => skip (fun c => c.1 q) σ' hR', fun q1 => ⟨fun q => absurd q (nI_ge (a := 0) (b := j + 1) (by omega) (by omega)), fun _ => y_isBar hR' hW hm hi' hj' (fun σ3 _ hR3 => ?_)⟩⟩
        rw [bI_0]
        refine ⟨fun q2 => ?_, fun q2 => skip (fun c => q2 c.2.1) σ3 hR3⟩
        have h0 : nI (j + 1) ≠ 0 := fun z => by have := (nI_eq (b := 0) (show j + 1 < 2 ^ 31 by omega) (by decide)).mp z; omega
        refine B_X10_ratherOf_80 _ _ _ _ _ (y_keep hR3 hW hm hi' (fun σ4 _ _ hR4 hk4 => ⟨fun _ => ⟨fun _ => ?_, fun z => absurd z h0⟩, fun z => absurd z h0⟩))
        rw [nI_pred]
        refine y_give1 hR4 hW hm hi' hj' q1 hk4 (fun σ5 W5 v5 hR5 hk5 hv5 hp5 => ?_)
        have hW5 : hWF (rnD D (8 * m + i) 2 j 9 10) := rn_W hW hm hi' (by decide) (Or.inr (Or.inl ⟨rfl, hj', q1, rfl, rfl⟩))
        refine y_tryTail hR5 hW hW5 hm hi' (fun i' h j' => rn_n D _ _ _ _ _ h j') (rn_eo D _ _ _ _ _) hk5 hv5 hp5 ⟨c2, c3⟩ ⟨c4, c5⟩ c1 (fun σ6 hR6 => ?_)
        have eC : cha D m (cnV D hb m (D 0 1) 0 (some (i, j))).2 = chC D hb m 0 (some (i, j)) := rfl
        rw [eC, bI_0]
        refine ⟨fun q => skip (fun c => of_decide_eq_false q c.2.2) σ6 hR6, fun q => ?_⟩
        have k := k σ6 hR6
        rw [eJ, if_pos ⟨q1, q2, by simpa using q⟩] at k
        have e10 : (10 : Int32) * nI i + nI (j + 1) = nI (10 * i + j + 1) := by rw [show (10 : Int32) = nI 10 from rfl, pk_mul, nI_add, Nat.add_assoc]
        rw [e10]; exact k
    -- itself
    refine B_X10_ratherOf_40 _ _ _ _ _ ⟨fun q => absurd q (by rw [hR'.1.1]; exact nI_nlt (a := D 0 0) (b := 0) (by omega) (by omega)), fun _ => ⟨fun q => absurd q (fun z => ?_), fun _ => ⟨fun _ => ?_, fun q => absurd (by decide) q⟩⟩⟩
    · have : nI i = -1 := z.symm.trans (by decide)
      exact nI_ne_m1 (by omega) this
    refine B_X10_ratherOf_80 _ _ _ _ _ (y_keep hR' hW hm hi' (fun σ4 _ _ hR4 hk4 => ⟨fun z => absurd rfl z, fun _ => ⟨fun z => absurd rfl z, fun _ => ?_⟩⟩))
    refine y_self1 hR4 hW hm hi' hk4 (fun σ5 W5 v5 hR5 hk5 hv5 hp5 => ?_)
    have hW5 : hWF (rnD D (8 * m + i) 1 9 9 0) := rn_W hW hm hi' (by decide) (Or.inl ⟨Or.inl (by decide), rfl, rfl⟩)
    refine y_tryTail hR5 hW hW5 hm hi' (fun i' h j' => rn_n D _ _ _ _ _ h j') (rn_eo D _ _ _ _ _) hk5 hv5 hp5 ⟨c2, c3⟩ ⟨c4, c5⟩ c1 (fun σ6 hR6 => ?_)
    have eC : cha D m (cnV D hb m (D 0 1) (2 ^ i) none).2 = chC D hb m (2 ^ i) none := rfl
    rw [eC, bI_0]
    rw [eI] at k
    refine ⟨fun q => ?_, fun q => ?_⟩
    · rw [if_neg (of_decide_eq_false q)] at k
      exact names (D 0 0) 0 σ6 (by omega) hR6 k
    · have k := k σ6 hR6
      rw [if_pos (by simpa using q)] at k
      have e10 : (10 : Int32) * nI i + 0 = nI (10 * i) := by rw [Int32.add_zero, show (10 : Int32) = nI 10 from rfl, pk_mul]
      rw [e10]; exact k
theorem y_rather {Φ : Int32 → hv_S → Prop} (hR : RM D hb It σ) (hW : hWF D) (x : Int32) (k : ∀ σ', RM D hb It σ' → Φ (anM (fun m => oR (wish D hb m)) x) σ') : hv_CI l (hv_e2 e) 14 m_X10_rather [.ref 60, .int x] σ Φ := by
  refine B_X10_rather _ (y_isMatter x (fun h => ⟨fun _ => ?_, fun q => absurd rfl q⟩) (fun m hm hx => ⟨fun q => absurd q (by decide), fun _ => ?_⟩))
  · rw [anM_out h] at k; exact k σ hR
  · subst hx
    rw [anM_in hm] at k
    exact y_ratherOf hR hW hm k
theorem y_settle {Φ : Int32 → hv_S → Prop} (hR : RM D hb It σ) (hW : hWF D) (x : Int32) (k : ∀ σ', RM (seR D hb x).2 hb It σ' → Φ (seR D hb x).1 σ') : hv_CI l (hv_e2 e) 14 m_X10_settle [.ref 60, .int x] σ Φ := by
  unfold seR at k
  refine B_X10_settle _ (y_isMatter x (fun h => ⟨fun q => absurd rfl q, fun _ => ?_⟩) (fun m hm hx => ⟨fun _ => ?_, fun q => absurd q (by decide)⟩))
  · rw [an1_out (by omega) h] at k; exact k σ hR
  · rw [hx, an1_in (by omega) hm] at k
    subst hx
    suffices ∀ d t (D : hD) σ, t + d = 12 → RM D hb It σ → hWF D → (∀ σ', RM (stN hb m d D).2 hb It σ' → Φ (nI (t + (stN hb m d D).1)) σ') → L_X10_settle_12 l e Φ (nI m) (nI t) σ by
      exact this 12 0 D σ (by omega) hR hW (fun σ' h => by rw [Nat.zero_add]; exact k σ' h)
    intro d
    induction d with
    | zero =>
      intro t D σ ht hR hW k
      have ht2 : t = 12 := by omega
      subst ht2
      exact B_X10_settle_12 _ _ ⟨fun _ => k σ hR, fun q => absurd (nI_le (a := 12) (b := 12) (by decide) (by decide)) q⟩
    | succ d ih =>
      intro t D σ ht hR hW k
      have hn := hW.1
      refine B_X10_settle_12 _ _ ⟨fun q => absurd q (nI_ge (a := t) (b := 12) (by omega) (by decide)), fun _ => y_ratherOf hR hW hm (fun σ1 hR1 => ?_)⟩
      cases hw : wish D hb m with
      | none =>
        have e1 : stN hb m (d + 1) D = (0, D) := by unfold stN; rw [hw]
        rw [e1] at k
        exact ⟨fun q => absurd q (by show ¬ 0 ≤ (-5 : Int32); decide), fun _ => k σ1 hR1⟩
      | some w =>
        have e1 : stN hb m (d + 1) D = ((stN hb m d (stD D m w)).1 + 1, (stN hb m d (stD D m w)).2) := by
          have e0 : stN hb m (d + 1) D = (match wish D hb m with | none => (0, D) | some w => ((stN hb m d (stD D m w)).1 + 1, (stN hb m d (stD D m w)).2)) := rfl
          rw [e0, hw]
        rw [e1] at k
        obtain ⟨w1, w2⟩ := wish_ok hn hw
        have hw100 : w < 100 := by omega
        have hW2 := stD_W hW hm hw
        have nxt : ∀ σ', RM (stD D m w) hb It σ' → L_X10_settle_12 l e Φ (nI m) (nI (t + 1)) σ' := fun σ' hR' => ih (t + 1) _ σ' (by omega) hR' hW2 (fun σ2 h2 => by
          have := k σ2 h2
          rw [show t + ((stN hb m d (stD D m w)).1 + 1) = t + 1 + (stN hb m d (stD D m w)).1 by omega] at this
          exact this)
        have d1 : nI w / 10 = nI (w / 10) := pk_div (d := 10) (by omega) (by decide) (by decide)
        have d2 : nI w - nI w / 10 * 10 = nI (w % 10) := pk_rem (d := 10) (by omega) (by decide) (by decide)
        rw [show oR (some w) = nI w from rfl, d2, nI_1, d1, cellM]
        refine ⟨fun _ => ⟨fun q => ⟨fun _ => ?_, fun z => absurd z q⟩, fun q => ⟨fun z => absurd q z, fun _ => ?_⟩⟩, fun q => absurd (nI_pos' (by omega)) q⟩
        · have q1 : w % 10 ≠ 0 := fun c => q (by rw [c]; rfl)
          have e2 : stD D m w = rnD D (8 * m + w / 10) 2 (w % 10 - 1) 9 10 := if_neg q1
          have e3 : nI (w % 10) - 1 = nmM (w % 10 - 1) := by rw [nmM_lt (by omega), show (1 : Int32) = nI 1 from rfl, pk_sub (by omega)]
          rw [e3]
          rw [e2] at nxt
          exact y_put (k := 2) (f := w % 10 - 1) (g := 9) (x := 10) hR1 hn hm w1 (fun σ' _ h => nxt σ' h)
        · have q1 : w % 10 = 0 := (nI_eq (b := 0) (by omega) (by decide)).mp q
          have e2 : stD D m w = rnD D (8 * m + w / 10) 1 9 9 0 := if_pos q1
          rw [e2] at nxt
          rw [q1]
          exact y_put (k := 1) (f := 9) (g := 9) (x := 0) hR1 hn hm w1 (fun σ' _ h => nxt σ' h)
end RW
