-- THE REFERENCE: what would be, if some spoke for themselves
def asD (D : hD) (m S : Nat) : hD := fun i c => if i = 2 ∧ c / 8 = m ∧ c % 8 < D 0 0 ∧ S.testBit (c % 8) = true then 0 else D i c
theorem as_n (D : hD) (m S : Nat) {i : Nat} (h : i ≠ 2) (j : Nat) : asD D m S i j = D i j := if_neg (fun z => h z.1)
theorem as_2 {D : hD} {m S a : Nat} (hn : D 0 0 ≤ 8) (ha : a < D 0 0) : asD D m S 2 (8 * m + a) = if S.testBit a = true then 0 else D 2 (8 * m + a) := by
  unfold asD
  rw [show (8 * m + a) / 8 = m by omega, show (8 * m + a) % 8 = a by omega]
  by_cases c : S.testBit a = true
  · rw [if_pos ⟨rfl, rfl, ha, c⟩, if_pos c]
  · rw [if_neg (fun z => c z.2.2.2), if_neg c]
theorem as_o {D : hD} {m m' S a : Nat} (hne : m' ≠ m) (ha : a < 8) (i : Nat) : asD D m S i (8 * m' + a) = D i (8 * m' + a) := if_neg (fun z => by omega)
theorem as_e (D : hD) (m S : Nat) : ∀ i, (i = 0 ∨ 6 ≤ i) → ∀ j, asD D m S i j = D i j := fun i hi j => as_n D m S (by omega) j
theorem as_W {D : hD} (hW : hWF D) (m S : Nat) : hWF (asD D m S) := by
  have e : ∀ i, i ≠ 2 → ∀ j, asD D m S i j = D i j := fun i h j => as_n D m S h j
  obtain ⟨g0, g1, g2, g3, g4, g5, g6, g7, g8, g9, g10, g11, g12, g13⟩ := hW
  refine ⟨g0, g1, g2, g3, g4, g5, g6, g7, g8, fun c hc => ?_, fun c hc h0 => ?_, g11, g12, g13⟩
  · have := g9 c hc
    have h2 : asD D m S 2 c ≤ 100 := by unfold asD; split; omega; exact this.2.1
    unfold hnd at this ⊢
    rw [e 1 (by decide), e 5 (by decide), e 6 (by decide), e 7 (by decide), e 3 (by decide), e 4 (by decide), e 0 (by decide)]
    exact ⟨this.1, h2, this.2.2⟩
  · have h0 : D 0 0 ≤ c % 8 := h0
    have := g10 c hc h0
    have h2 : asD D m S 2 c = D 2 c := if_neg (fun z => by omega)
    unfold hnd0 at this ⊢
    rw [h2, e 1 (by decide), e 3 (by decide), e 4 (by decide), e 5 (by decide), e 6 (by decide), e 7 (by decide)]
    exact this
theorem cn_as {D : hD} {hb : hB} {m S : Nat} (hn : D 0 0 ≤ 8) : cnV (asD D m S) hb m (asD D m S 0 1) 0 none = cnV D hb m (D 0 1) S none := by
  refine cnV_congr (pf_same hb m (as_e D m S)) (as_e D m S 0 (Or.inl rfl) 6) (as_e D m S 0 (Or.inl rfl) 3) (fun a ha => ?_)
  have ha : a < D 0 0 := ha
  show ehS 0 (ehD (asD D m S) m (D 0 1)) a = ehS S (ehD D m (D 0 1)) a
  rw [ehS0]
  unfold ehS ehD
  rw [as_2 hn ha, as_n D m S (show (1 : Nat) ≠ 2 by decide), as_n D m S (show (3 : Nat) ≠ 2 by decide), as_n D m S (show (4 : Nat) ≠ 2 by decide), as_n D m S (show (5 : Nat) ≠ 2 by decide)]
  by_cases c : S.testBit a = true
  · rw [if_pos c, if_pos c, if_neg (fun z => absurd z.1 (Nat.not_lt_zero _))]
  · rw [if_neg c, if_neg c]
theorem RM.kh {D D' : hD} {hb : hB} {It : hT} {σ σ' : hv_S} (h : RM D hb It σ) (e : ∀ i, (i = 0 ∨ 6 ≤ i) → ∀ j, D' i j = D i j) (o : ∀ p, (p < 61 ∨ 65 < p) → p ≠ 77 → p ≠ 78 → ∀ j, σ'.1 p j = σ.1 p j) (h2 : σ'.2 = σ.2)
    (hh : ∀ m a, m < 3 → a < D 0 0 → σ'.1 61 (8 * m + a) = nI (D' 1 (8 * m + a)) ∧ σ'.1 62 (8 * m + a) = nI (D' 2 (8 * m + a)) ∧ σ'.1 63 (8 * m + a) = nmM (D' 3 (8 * m + a)) ∧ σ'.1 64 (8 * m + a) = nmM (D' 4 (8 * m + a)) ∧ σ'.1 65 (8 * m + a) = nI (D' 5 (8 * m + a))) : RM D' hb It σ' := by
  obtain ⟨σm, hσ⟩ : ∃ σm : hv_S, σm = (fun p j => if 61 ≤ p ∧ p ≤ 65 then σ'.1 p j else σ.1 p j, σ.2) := ⟨_, rfl⟩
  have hm : RM D' hb It σm := by
    rw [hσ]
    exact h.hands e (fun k hk j => if_neg (by omega)) rfl hh
  refine hm.k (fun p hp j => ?_) (by rw [hσ]; exact h2)
  rw [hσ]
  show σ'.1 p j = if 61 ≤ p ∧ p ≤ 65 then σ'.1 p j else σ.1 p j
  by_cases c : 61 ≤ p ∧ p ≤ 65
  · rw [if_pos c]
  · rw [if_neg c]; exact o p (by omega) hp.1 hp.2 j
def tkI (D : hD) (m : Nat) (σ : hv_S) : Prop := ∀ a, a < D 0 0 → σ.1 78 a = nI (D 2 (8 * m + a))
section SF
variable {l : Launch} {e : hv_Ev} {σ : hv_S} {D : hD} {hb : hB} {It : hT}
theorem y_asSelf {Φ : hv_S → Prop} {m S : Nat} (hR : RM D hb It σ) (hW : hWF D) (hm : m < 3) (hS : S < 2 ^ 31) (k : ∀ σ', RM (asD D m S) hb It σ' → tkI D m σ' → Φ σ') : hv_CV l (hv_e2 e) 1 m_X10_asSelf [.ref 60, .int (nI S), .int (nI m)] σ Φ := by
  have hn := hW.1
  refine B_X10_asSelf _ _ ?_
  suffices ∀ d i σ', i + d = D 0 0 → (∀ p, p ≠ 62 → p ≠ 78 → ∀ j, σ'.1 p j = σ.1 p j) → σ'.2 = σ.2 → (∀ c, σ'.1 62 c = if c / 8 = m ∧ c % 8 < i ∧ S.testBit (c % 8) = true then 0 else σ.1 62 c) → (∀ a, a < i → σ'.1 78 a = nI (D 2 (8 * m + a))) → L_X10_asSelf_2 l e Φ (nI S) (nI m) (nI i) σ' by
    exact this (D 0 0) 0 σ (by omega) (fun _ _ _ _ => rfl) rfl (fun c => (if_neg (fun z => Nat.not_lt_zero _ z.2.1)).symm) (fun a ha => absurd ha (Nat.not_lt_zero a))
  intro d
  induction d with
  | zero =>
    intro i σ' hi ho h2 h62 h78
    have hin : i = D 0 0 := by omega
    subst hin
    refine B_X10_asSelf_2 _ _ _ ⟨fun _ => k σ' (hR.kh (as_e D m S) (fun p hp h7 h8 j => ho p (by omega) h8 j) h2 (fun m' a' hm' ha' => ?_)) h78, fun q => absurd (by rw [ho 60 (by decide) (by decide), hR.1.1]; exact nI_le (Nat.le_refl _) (by omega)) q⟩
    obtain ⟨g6, g1, g2, g3, g4, g5⟩ := hR.1.2.2.2.2 m' a' hm' ha'
    rw [ho 61 (by decide) (by decide), ho 63 (by decide) (by decide), ho 64 (by decide) (by decide), ho 65 (by decide) (by decide), as_n D m S (show (1 : Nat) ≠ 2 by decide), as_n D m S (show (3 : Nat) ≠ 2 by decide), as_n D m S (show (4 : Nat) ≠ 2 by decide), as_n D m S (show (5 : Nat) ≠ 2 by decide)]
    refine ⟨g1, ?_, g3, g4, g5⟩
    rw [h62, show (8 * m' + a') / 8 = m' by omega, show (8 * m' + a') % 8 = a' by omega]
    by_cases c : m' = m
    · subst c
      rw [as_2 hn ha']
      by_cases c2 : S.testBit a' = true
      · rw [if_pos ⟨rfl, ha', c2⟩, if_pos c2]; rfl
      · rw [if_neg (fun z => c2 z.2.2), if_neg c2]; exact g2
    · rw [if_neg (fun z => c z.1), as_o c (by omega)]; exact g2
  | succ d ih =>
    intro i σ' hi ho h2 h62 h78
    have hv : vp_in (nI (8 * m + i)) 24 := vp_in_nI (by omega) (by decide)
    have e62 : σ'.1 62 (8 * m + i) = nI (D 2 (8 * m + i)) := by
      rw [h62, if_neg (fun z => by omega)]; exact (hR.1.2.2.2.2 m i hm (by omega)).2.2.1
    refine B_X10_asSelf_2 _ _ _ ⟨fun q => absurd q (by rw [ho 60 (by decide) (by decide), hR.1.1]; exact nI_ge (by omega) (by omega)), fun _ => ?_⟩
    rw [cellM, nI_clamp (by omega), nI_clamp (by omega), e62, nI_1]
    refine ⟨hv, vp_in_nI (by omega) (by decide), y_has hS (by omega) ?_⟩
    rw [bI_0]
    have b78 : ∀ a, a < i + 1 → (hv_ui σ' 78 i (nI (D 2 (8 * m + i)))).1 78 a = nI (D 2 (8 * m + a)) := fun a ha => by
      rw [ui_1]
      by_cases c : a = i
      · subst c; rw [if_pos ⟨rfl, rfl⟩]
      · rw [if_neg (fun z => c z.2)]; exact h78 a (by omega)
    refine ⟨fun q => ih (i + 1) _ (by omega) (fun p h1 h8 j => by rw [ui_1, if_neg (fun z => h8 z.1)]; exact ho p h1 h8 j) h2 (fun c => ?_) b78, fun q => ⟨hv, ih (i + 1) _ (by omega) (fun p h1 h8 j => by rw [ui_1, if_neg (fun z => h1 z.1), ui_1, if_neg (fun z => h8 z.1)]; exact ho p h1 h8 j) h2 (fun c => ?_) (fun a ha => by rw [ui_1, if_neg (fun z => absurd z.1 (by decide))]; exact b78 a ha)⟩⟩
    · rw [ui_1, if_neg (fun z => absurd z.1 (by decide)), h62]
      by_cases c1 : c / 8 = m ∧ c % 8 < i ∧ S.testBit (c % 8) = true
      · rw [if_pos c1, if_pos ⟨c1.1, by omega, c1.2.2⟩]
      · rw [if_neg c1, if_neg (fun z => ?_)]
        by_cases c2 : c % 8 = i
        · have := z.2.2
          rw [c2, q] at this; exact absurd this (by decide)
        · exact c1 ⟨z.1, by omega, z.2.2⟩
    · have q2 : S.testBit i = true := by simpa using q
      rw [ui_1]
      by_cases c2 : c = 8 * m + i
      · rw [if_pos ⟨rfl, c2⟩, if_pos ⟨by omega, by omega, by rw [show c % 8 = i by omega]; exact q2⟩]
      · rw [if_neg (fun z => c2 z.2), ui_1, if_neg (fun z => absurd z.1 (by decide)), h62]
        by_cases c1 : c / 8 = m ∧ c % 8 < i ∧ S.testBit (c % 8) = true
        · rw [if_pos c1, if_pos ⟨c1.1, by omega, c1.2.2⟩]
        · rw [if_neg c1, if_neg (fun z => c1 ⟨z.1, by omega, z.2.2⟩)]
theorem y_asBefore {Φ : hv_S → Prop} {m S : Nat} (hR : RM (asD D m S) hb It σ) (hW : hWF D) (hm : m < 3) (hk : tkI D m σ) (k : ∀ σ', σ'.2 = σ.2 → RM D hb It σ' → Φ σ') : hv_CV l (hv_e2 e) 0 m_X10_asBefore [.ref 60, .int (nI m)] σ Φ := by
  have hn := hW.1
  have h60 : σ.1 60 0 = nI (D 0 0) := hR.1.1
  refine B_X10_asBefore _ ?_
  suffices ∀ d i σ', i + d = D 0 0 → (∀ p, p ≠ 62 → ∀ j, σ'.1 p j = σ.1 p j) → σ'.2 = σ.2 → (∀ c, σ'.1 62 c = if c / 8 = m ∧ c % 8 < i then nI (D 2 c) else σ.1 62 c) → L_X10_asBefore_2 l e Φ (nI m) (nI i) σ' by
    exact this (D 0 0) 0 σ (by omega) (fun _ _ _ => rfl) rfl (fun c => (if_neg (fun z => Nat.not_lt_zero _ z.2)).symm)
  intro d
  induction d with
  | zero =>
    intro i σ' hi ho h2 h62
    have hin : i = D 0 0 := by omega
    subst hin
    refine B_X10_asBefore_2 _ _ ⟨fun _ => k σ' h2 (hR.hands (fun i hi j => (as_e D m S i hi j).symm) (fun p hp j => ho p (by omega) j) h2 (fun m' a' hm' ha' => ?_)), fun q => absurd (by rw [ho 60 (by decide), h60]; exact nI_le (Nat.le_refl _) (by omega)) q⟩
    have ha' : a' < D 0 0 := ha'
    obtain ⟨g6, g1, g2, g3, g4, g5⟩ := hR.1.2.2.2.2 m' a' hm' ha'
    rw [as_n D m S (show (1 : Nat) ≠ 2 by decide)] at g1
    rw [as_n D m S (show (3 : Nat) ≠ 2 by decide)] at g3
    rw [as_n D m S (show (4 : Nat) ≠ 2 by decide)] at g4
    rw [as_n D m S (show (5 : Nat) ≠ 2 by decide)] at g5
    rw [ho 61 (by decide), ho 63 (by decide), ho 64 (by decide), ho 65 (by decide)]
    refine ⟨g1, ?_, g3, g4, g5⟩
    rw [h62, show (8 * m' + a') / 8 = m' by omega, show (8 * m' + a') % 8 = a' by omega]
    by_cases c : m' = m
    · rw [if_pos ⟨c, ha'⟩]
    · rw [if_neg (fun z => c z.1)]
      rw [as_o c (by omega)] at g2; exact g2
  | succ d ih =>
    intro i σ' hi ho h2 h62
    refine B_X10_asBefore_2 _ _ ⟨fun q => absurd q (by rw [ho 60 (by decide), h60]; exact nI_ge (by omega) (by omega)), fun _ => ?_⟩
    rw [cellM, nI_clamp (by omega), nI_clamp (by omega), ho 78 (by decide), hk i (by omega), nI_1]
    refine ⟨vp_in_nI (by omega) (by decide), vp_in_nI (by omega) (by decide), ih (i + 1) _ (by omega) (fun p h1 j => by rw [ui_1, if_neg (fun z => h1 z.1)]; exact ho p h1 j) h2 (fun c => ?_)⟩
    rw [ui_1]
    by_cases c2 : c = 8 * m + i
    · subst c2; rw [if_pos ⟨rfl, rfl⟩, if_pos ⟨by omega, by omega⟩]
    · rw [if_neg (fun z => c2 z.2), h62]
      by_cases c1 : c / 8 = m ∧ c % 8 < i
      · rw [if_pos c1, if_pos ⟨c1.1, by omega⟩]
      · rw [if_neg c1, if_neg (fun z => c1 ⟨z.1, by omega⟩)]
theorem y_ifSelf {Φ : hv_S → Prop} {m S : Nat} (hR : RM D hb It σ) (hW : hWF D) (hm : m < 3) (hS : S < 2 ^ 31) (k : ∀ σ' W v, RM D hb It σ' → vmI σ' (D 0 0) W v → prp W v (cnV D hb m (D 0 1) S none).1 (cnV D hb m (D 0 1) S none).2 → Φ σ') :
    hv_CV l (hv_e2 e) 1 m_X10_asSelf [.ref 60, .int (nI S), .int (nI m)] σ (fun s16 => hv_CV l (hv_e2 e) 12 m_X10_findVoices [.ref 60, .int (nI m), .int (s16.1 60 1)] s16 (fun s19 => hv_CV l (hv_e2 e) 0 m_X10_asBefore [.ref 60, .int (nI m)] s19 (fun s22 => Φ s22))) := by
  refine y_asSelf hR hW hm hS (fun σ1 hR1 hk1 => y_now hR1 (as_W hW m S) hm (fun σ2 W v hM2 hR2 h2 => ?_))
  have hk2 : tkI D m σ2 := fun a ha => by rw [hM2.1 78 (by decide)]; exact hk1 a ha
  refine y_asBefore hR2 hW hm hk2 (fun σ3 e3 hR3 => k σ3 W v hR3 ((show vmI σ2 (D 0 0) W v from h2.2.2.2).he e3) ?_)
  have := uv_c (as_W hW m S) hm h2
  rw [cn_as hW.1] at this
  exact this
end SF
theorem fw_skip {D : hD} {hb : hB} {m A s z : Nat} {f : Option Nat} (hc : ¬ (mns s A = 0 ∧ pop 8 s < z ∧ dcC D hb m (D 0 1) s (yeM D m ||| s) = true)) : fwS D hb m A (A + 1 - s) s f z = fwS D hb m A (A + 1 - (s + 1)) (s + 1) f z := by
  by_cases c : s ≤ A
  · rw [show A + 1 - s = (A - s) + 1 by omega, show A + 1 - (s + 1) = A - s by omega]
    exact if_neg hc
  · rw [show A + 1 - s = 0 by omega, show A + 1 - (s + 1) = 0 by omega]; rfl
theorem fw_take {D : hD} {hb : hB} {m A s z : Nat} {f : Option Nat} (hs : s ≤ A) (hc : mns s A = 0 ∧ pop 8 s < z ∧ dcC D hb m (D 0 1) s (yeM D m ||| s) = true) : fwS D hb m A (A + 1 - s) s f z = fwS D hb m A (A + 1 - (s + 1)) (s + 1) (some s) (pop 8 s) := by
  rw [show A + 1 - s = (A - s) + 1 by omega, show A + 1 - (s + 1) = A - s by omega]
  exact if_pos hc
def zfO (o : Option Nat) : Nat := match o with
  | none => 9
  | some z => pop 8 z
section FW
variable {l : Launch} {e : hv_Ev} {σ : hv_S} {D : hD} {hb : hB} {It : hT}
theorem y_fewest {Φ : Int32 → hv_S → Prop} (hR : RM D hb It σ) (hW : hWF D) (x : Int32) (k : ∀ σ', RM D hb It σ' → Φ (anM (fun m => oR (fewS D hb m)) x) σ') : hv_CI l (hv_e2 e) 13 m_X10_fewest [.ref 60, .int x] σ Φ := by
  have hn := hW.1
  have p8 : 2 ^ D 0 0 ≤ 2 ^ 8 := Nat.pow_le_pow_right (by decide) hn
  have p0 := Nat.two_pow_pos (D 0 0)
  refine B_X10_fewest _ (y_isMatter x (fun h => ⟨fun q => absurd rfl q, fun _ => ?_⟩) (fun m hm hx => ⟨fun _ => ?_, fun q => absurd q (by decide)⟩))
  · rw [anM_out h] at k; exact k σ hR
  · subst hx
    rw [anM_in hm] at k
    have hy := yeM_lt D m
    refine y_thinks hR hW hm ?_
    unfold fewS at k
    obtain ⟨A, eA⟩ : ∃ A, A = mns (2 ^ D 0 0 - 1) (yeM D m) := ⟨_, rfl⟩
    rw [← eA] at k
    have hA : A < 2 ^ D 0 0 := by rw [eA]; exact mns_lt (by omega) _
    have hAb : ∀ i, A.testBit i = (decide (i < D 0 0) && !(yeM D m).testBit i) := fun i => by rw [eA, mns_b (by omega), tb_full]
    have hsub : ∀ s, s < 2 ^ D 0 0 → (s &&& yeM D m = 0 ↔ mns s A = 0) := fun s hs => by
      rw [mns0 (by omega), and0_iff]
      constructor
      · intro h i hi
        have : i < D 0 0 := Nat.lt_of_not_le (fun z => by rw [tb_hi hs z] at hi; exact absurd hi (by decide))
        rw [hAb]
        cases c : (yeM D m).testBit i with
        | true => exact absurd ⟨hi, c⟩ (h i)
        | false => simp [this]
      · intro h i hi
        have := h i hi.1
        rw [hAb, hi.2] at this
        simp at this
    suffices ∀ d s σ' f, s + d = 2 ^ D 0 0 → RM D hb It σ' → (∀ z, f = some z → z < s) → (∀ σ', RM D hb It σ' → Φ (oR (fwS D hb m A (A + 1 - s) s f (zfO f))) σ') → L_X10_fewest_22 l e Φ (nI m) (oR f) (nI (yeM D m)) (nI s) σ' by
      exact this (2 ^ D 0 0) 0 σ none (by omega) hR (fun z hz => absurd hz (by simp)) k
    intro d
    induction d with
    | zero =>
      intro s σ' f hs hR' hf k
      have hs2 : s = 2 ^ D 0 0 := by omega
      rw [show A + 1 - s = 0 by omega] at k
      exact B_X10_fewest_22 _ _ _ _ ⟨fun _ => k σ' hR', fun q => absurd (by rw [y_two hR' hW, hs2]; exact nI_le (Nat.le_refl _) (by omega)) q⟩
    | succ d ih =>
      intro s σ' f hs hR' hf k
      have hs' : s < 2 ^ D 0 0 := by omega
      have skip : ¬ (mns s A = 0 ∧ pop 8 s < zfO f ∧ dcC D hb m (D 0 1) s (yeM D m ||| s) = true) → ∀ σ', RM D hb It σ' → L_X10_fewest_22 l e Φ (nI m) (oR f) (nI (yeM D m)) (nI s + 1) σ' := fun q σ' hR' => by
        rw [fw_skip q] at k
        rw [nI_1]
        exact ih (s + 1) σ' f (by omega) hR' (fun z hz => by have := hf z hz; omega) k
      have hand : s &&& yeM D m < 2 ^ 31 := Nat.lt_of_le_of_lt Nat.and_le_left (by omega)
      refine B_X10_fewest_22 _ _ _ _ ⟨fun q => absurd q (by rw [y_two hR' hW]; exact nI_ge (by omega) (by omega)), fun _ => ?_⟩
      rw [tI_and]
      refine ⟨fun q => skip (fun c => q (by rw [(hsub s hs').mpr c.1]; rfl)) σ' hR', fun q => ?_⟩
      have q1 : mns s A = 0 := (hsub s hs').mp ((nI_eq (b := 0) hand (by decide)).mp q)
      have try1 : pop 8 s < zfO f → ∀ σ', RM D hb It σ' → L_X10_fewest_61 l e Φ (nI m) (oR f) (nI (yeM D m)) (nI s) σ' := fun q2 σ' hR' => by
        refine B_X10_fewest_61 _ _ _ _ (y_ifSelf hR' hW hm (by omega) (fun σ1 W v hR1 hv1 hp1 => ?_))
        rw [tI_or]
        have ho : yeM D m ||| s < 2 ^ 8 := Nat.or_lt_two_pow hy (by omega)
        refine y_decides hR1 hW hv1 (by omega) ?_
        rw [dcd_inv hp1]
        have eC : dcd D (cnV D hb m (D 0 1) s none).2 (yeM D m ||| s) = dcC D hb m (D 0 1) s (yeM D m ||| s) := rfl
        rw [eC, bI_0]
        refine ⟨fun q3 => skip (fun c => by rw [c.2.2] at q3; exact absurd q3 (by decide)) σ1 hR1, fun q3 => ?_⟩
        rw [fw_take (sub_le (by omega) q1) ⟨q1, q2, by simpa using q3⟩] at k
        rw [nI_1]
        exact ih (s + 1) σ1 (some s) (by omega) hR1 (fun z hz => by cases hz; omega) k
      have ps := pop_le s 8
      cases f with
      | none => exact ⟨fun _ => try1 (by show pop 8 s < 9; omega) σ' hR', fun z => absurd (by decide) z⟩
      | some z =>
        have hz := hf z rfl
        have pz := pop_le z 8
        refine ⟨fun c => absurd c (nI_pos (by omega)), fun _ => y_ones (by omega) (y_ones (S := z) (by omega) ?_)⟩
        rw [nI_ltI (by omega) (by omega)]
        exact ⟨fun c => try1 c σ' hR', fun c => skip (fun c2 => c c2.2.1) σ' hR'⟩
end FW
