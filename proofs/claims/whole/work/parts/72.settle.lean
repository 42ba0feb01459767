-- TURN BY TURN
def stD (D : hD) (m w : Nat) : hD := if w % 10 = 0 then rnD D (8 * m + w / 10) 1 9 9 0 else rnD D (8 * m + w / 10) 2 (w % 10 - 1) 9 10
noncomputable def stN (hb : hB) (m : Nat) : Nat → hD → Nat × hD
  | 0, D => (0, D)
  | f + 1, D => match wish D hb m with
    | none => (0, D)
    | some w => ((stN hb m f (stD D m w)).1 + 1, (stN hb m f (stD D m w)).2)
noncomputable def seR (D : hD) (hb : hB) (x : Int32) : Int32 × hD := an1 3 x (fun m => (nI (stN hb m 12 D).1, (stN hb m 12 D).2)) (-1, D)
theorem wsJ_ok {D : hD} {hb : hB} {m i : Nat} {B : Int} : ∀ d j w, wsJ D hb m B i d j = some w → ∃ b, b < j + d ∧ b ≠ i ∧ w = 10 * i + b + 1 := by
  intro d
  induction d with
  | zero => intro j w h; exact absurd h (by intro z; cases z)
  | succ d ih =>
    intro j w h
    have eJ : wsJ D hb m B i (d + 1) j = if j ≠ i ∧ bar D hb m i j = false ∧ B < chC D hb m 0 (some (i, j)) then some (10 * i + j + 1) else wsJ D hb m B i d (j + 1) := rfl
    rw [eJ] at h
    by_cases c : j ≠ i ∧ bar D hb m i j = false ∧ B < chC D hb m 0 (some (i, j))
    · rw [if_pos c] at h
      exact ⟨j, by omega, c.1, (Option.some.inj h).symm⟩
    · rw [if_neg c] at h
      obtain ⟨b, h1, h2, h3⟩ := ih (j + 1) w h
      exact ⟨b, by omega, h2, h3⟩
theorem wsI_ok {D : hD} {hb : hB} {m : Nat} {B : Int} : ∀ d i w, wsI D hb m B d i = some w → ∃ a, a < i + d ∧ (w = 10 * a ∨ ∃ b, b < D 0 0 ∧ b ≠ a ∧ w = 10 * a + b + 1) := by
  intro d
  induction d with
  | zero => intro i w h; exact absurd h (by intro z; cases z)
  | succ d ih =>
    intro i w h
    have eW : wsI D hb m B (d + 1) i = if B < chC D hb m (2 ^ i) none then some (10 * i) else (wsJ D hb m B i (D 0 0) 0).or (wsI D hb m B d (i + 1)) := rfl
    rw [eW] at h
    by_cases c : B < chC D hb m (2 ^ i) none
    · rw [if_pos c] at h
      exact ⟨i, by omega, Or.inl (Option.some.inj h).symm⟩
    · rw [if_neg c] at h
      cases hj : wsJ D hb m B i (D 0 0) 0 with
      | some u =>
        rw [hj] at h
        have h2 : u = w := Option.some.inj h
        obtain ⟨b, h3, h4, h5⟩ := wsJ_ok _ _ _ hj
        exact ⟨i, by omega, Or.inr ⟨b, by omega, h4, by rw [← h2]; exact h5⟩⟩
      | none =>
        rw [hj] at h
        obtain ⟨a, h1, h2⟩ := ih (i + 1) w h
        exact ⟨a, by omega, h2⟩
theorem wish_ok {D : hD} {hb : hB} {m w : Nat} (hn : D 0 0 ≤ 8) (h : wish D hb m = some w) : w / 10 < D 0 0 ∧ (w % 10 = 0 ∨ w % 10 - 1 < D 0 0 ∧ w % 10 - 1 ≠ w / 10) := by
  obtain ⟨a, h1, h2⟩ := wsI_ok _ _ _ h
  rcases h2 with h2 | ⟨b, h3, h4, h5⟩ <;> omega
theorem stD_W {D : hD} {hb : hB} {m w : Nat} (hW : hWF D) (hm : m < 3) (h : wish D hb m = some w) : hWF (stD D m w) := by
  obtain ⟨h1, h2⟩ := wish_ok hW.1 h
  unfold stD
  split
  · exact rn_W hW hm h1 (by decide) (Or.inl ⟨Or.inl (by decide), rfl, rfl⟩)
  · next c => exact rn_W hW hm h1 (by decide) (Or.inr (Or.inl ⟨rfl, by omega, by omega, rfl, rfl⟩))
theorem stN_W {hb : hB} {m : Nat} (hm : m < 3) : ∀ f D, hWF D → hWF (stN hb m f D).2 := by
  intro f
  induction f with
  | zero => intro D h; exact h
  | succ f ih =>
    intro D h
    unfold stN
    cases hw : wish D hb m with
    | none => exact h
    | some w => exact ih _ (stD_W h hm hw)
theorem seR_W {D : hD} {hb : hB} (hW : hWF D) (x : Int32) : hWF (seR D hb x).2 := an1_W (by decide) (fun m hm => stN_W hm 12 D hW) hW
section SX
variable {l : Launch} {e : hv_Ev} {σ : hv_S} {D : hD} {hb : hB} {It : hT}
theorem x_settle {Φ : Int32 → hv_S → Prop} (hR : RX D hb It σ) (hW : hWF D) (x : Int32) (k : ∀ σ', RX (seR D hb x).2 hb It σ' → Φ (seR D hb x).1 σ') : hv_CI l (hv_e1 e) 7 m_X9_settle [.ref 0, .int x] σ Φ := by
  unfold seR at k
  refine B_X9_settle _ (x_isMatter x (fun h => ⟨fun q => absurd rfl q, fun _ => ?_⟩) (fun m hm hx => ⟨fun _ => ?_, fun q => absurd q (by decide)⟩))
  · rw [an1_out (by omega) h] at k; exact k σ hR
  · rw [hx, an1_in (by omega) hm] at k
    subst hx
    suffices ∀ d t (D : hD) σ, t + d = 12 → RX D hb It σ → hWF D → (∀ σ', RX (stN hb m d D).2 hb It σ' → Φ (nI (t + (stN hb m d D).1)) σ') → L_X9_settle_11 l e Φ (nI m) (nI t) σ by
      exact this 12 0 D σ (by omega) hR hW (fun σ' h => by rw [Nat.zero_add]; exact k σ' h)
    intro d
    induction d with
    | zero =>
      intro t D σ ht hR hW k
      have ht2 : t = 12 := by omega
      subst ht2
      exact B_X9_settle_11 _ _ ⟨fun _ => k σ hR, fun q => absurd (nI_le (a := 12) (b := 12) (by decide) (by decide)) q⟩
    | succ d ih =>
      intro t D σ ht hR hW k
      have hn := hW.1
      refine B_X9_settle_11 _ _ ⟨fun q => absurd q (nI_ge (a := t) (b := 12) (by omega) (by decide)), fun _ => x_firstWish hR hm hW (fun σ1 hX1 => ?_)⟩
      have hR1 := hR.of hX1
      cases hw : wish D hb m with
      | none =>
        have e1 : stN hb m (d + 1) D = (0, D) := by unfold stN; rw [hw]
        rw [e1] at k
        exact ⟨fun q => absurd q (by show ¬ 0 ≤ (-5 : Int32); decide), fun _ => k σ1 hR1⟩
      | some w =>
        have e1 : stN hb m (d + 1) D = ((stN hb m d (stD D m w)).1 + 1, (stN hb m d (stD D m w)).2) := by
          have e0 : stN hb m (d + 1) D = (match wish D hb m with | none => (0, D) | some w => ((stN hb m d (stD D m w)).1 + 1, (stN hb m d (stD D m w)).2)) := rfl
          rw [e0, hw]
        rw [e1] at k
        obtain ⟨w1, w2⟩ := wish_ok hn hw
        have hw100 : w < 100 := by omega
        have hW2 := stD_W hW hm hw
        have nxt : ∀ σ', RX (stD D m w) hb It σ' → L_X9_settle_11 l e Φ (nI m) (nI (t + 1)) σ' := fun σ' hR' => ih (t + 1) _ σ' (by omega) hR' hW2 (fun σ2 h2 => by
          have := k σ2 h2
          rw [show t + ((stN hb m d (stD D m w)).1 + 1) = t + 1 + (stN hb m d (stD D m w)).1 by omega] at this
          exact this)
        refine ⟨fun _ => B_X9_cell _ _ ?_, fun q => absurd (nI_pos' (by omega)) q⟩
        have d1 : nI w / 10 = nI (w / 10) := pk_div (d := 10) (by omega) (by decide) (by decide)
        have d2 : nI w - nI w / 10 * 10 = nI (w % 10) := pk_rem (d := 10) (by omega) (by decide) (by decide)
        rw [show oR (some w) = nI w from rfl, d2, nI_1, d1, cellI]
        refine ⟨fun q => ?_, fun q => ?_⟩
        · have q1 : w % 10 ≠ 0 := fun c => q (by rw [c]; rfl)
          have e2 : stD D m w = rnD D (8 * m + w / 10) 2 (w % 10 - 1) 9 10 := if_neg q1
          have e3 : nI (w % 10) - 1 = nmX (w % 10 - 1) := by rw [nmX_lt (by omega), show (1 : Int32) = nI 1 from rfl, pk_sub (by omega)]
          rw [e3]
          rw [e2] at nxt
          exact x_renew (k := 2) (f := w % 10 - 1) (g := 9) (x := 10) hR1 (by omega) (fun σ' h => nxt σ' h)
        · have q1 : w % 10 = 0 := (nI_eq (b := 0) (by omega) (by decide)).mp q
          have e2 : stD D m w = rnD D (8 * m + w / 10) 1 9 9 0 := if_pos q1
          rw [e2] at nxt
          exact x_renew (k := 1) (f := 9) (g := 9) (x := 0) hR1 (by omega) (fun σ' h => nxt σ' h)
end SX
