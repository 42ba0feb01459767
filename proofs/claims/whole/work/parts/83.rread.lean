-- THE REFERENCE READS
def seM (c : Nat) : Int32 := if c < 256 then sxI c else -1
theorem sxI_toInt {b : Nat} (h : b < 256) : (sxI b).toInt = if b < 128 then (b : Int) else (b : Int) - 256 := by
  unfold sxI
  by_cases c : b < 128
  · rw [if_pos c, if_pos c, nI_toInt (by omega)]
  · rw [if_neg c, if_neg c]
    exact pk_sub_toInt (a := b) (b := 256) (by omega) (by decide)
theorem seM_toInt {c : Nat} : (seM c).toInt = if c < 128 then (c : Int) else if c < 256 then (c : Int) - 256 else -1 := by
  unfold seM
  by_cases h : c < 256
  · rw [if_pos h, sxI_toInt h]
    by_cases h2 : c < 128
    · rw [if_pos h2, if_pos h2]
    · rw [if_neg h2, if_neg h2, if_pos h]
  · rw [if_neg h, if_neg (by omega), if_neg h]; decide
theorem seM_eq {c k : Nat} (hk : k < 128) : seM c = nI k ↔ c = k := by
  rw [← Int32.toInt_inj, seM_toInt, nI_toInt (by omega)]
  split
  · omega
  · split <;> omega
theorem seM_in {c lo hi : Nat} (h2 : hi < 128) : (nI lo ≤ seM c ∧ seM c ≤ nI hi) ↔ (lo ≤ c ∧ c ≤ hi) ∨ 2 ^ 31 ≤ lo ∧ (nI lo ≤ seM c ∧ seM c ≤ nI hi) := by
  by_cases hl : lo < 2 ^ 31
  · rw [Int32.le_iff_toInt_le, Int32.le_iff_toInt_le, seM_toInt, nI_toInt hl, nI_toInt (by omega)]
    split
    · omega
    · split <;> omega
  · constructor
    · intro q; exact Or.inr ⟨by omega, q⟩
    · rintro (q | q)
      · omega
      · exact q.2
/-- nothing but where it reads, and the number, has changed -/
def NE (σ σ' : hv_S) : Prop := σ'.2 = σ.2 ∧ (∀ k, k ≠ 60 → ∀ j, σ'.1 k j = σ.1 k j) ∧ ∀ j, j ≠ 16 → j ≠ 17 → σ'.1 60 j = σ.1 60 j
theorem NE.refl (σ : hv_S) : NE σ σ := ⟨rfl, fun _ _ _ => rfl, fun _ _ _ => rfl⟩
theorem NE.trans {σ σ' σ'' : hv_S} (h : NE σ σ') (h2 : NE σ' σ'') : NE σ σ'' := ⟨h2.1.trans h.1, fun k hk j => (h2.2.1 k hk j).trans (h.2.1 k hk j), fun j h16 h17 => (h2.2.2 j h16 h17).trans (h.2.2 j h16 h17)⟩
theorem NE.u {σ : hv_S} {j : Nat} {v : Int32} (hj : j = 16 ∨ j = 17) : NE σ (hv_ui σ 60 j v) := ⟨rfl, fun k hk j' => by rw [ui_1, if_neg (fun z => hk z.1)], fun j' h16 h17 => by rw [ui_1, if_neg (fun z => by omega)]⟩
def rdM (T : Nat → Nat) (n bs p : Nat) (σ : hv_S) : Prop := n ≤ 100 ∧ bs ≤ 100 ∧ (∀ k, k < n → σ.1 68 (bs + k) = sxI (T k) ∧ T k < 256) ∧ σ.1 60 14 = nI bs ∧ σ.1 60 15 = nI n ∧ σ.1 60 16 = nI p ∧ p ≤ n
theorem rdM.to {T : Nat → Nat} {n bs p q : Nat} {σ σ' : hv_S} (h : rdM T n bs p σ) (e : NE σ σ') (hq : σ'.1 60 16 = nI q) (hqn : q ≤ n) : rdM T n bs q σ' := by
  obtain ⟨h1, h2, h3, h4, h5, h6, h7⟩ := h
  exact ⟨h1, h2, fun k hk => by rw [e.2.1 68 (by decide)]; exact h3 k hk, by rw [e.2.2 14 (by decide) (by decide)]; exact h4, by rw [e.2.2 15 (by decide) (by decide)]; exact h5, hq, hqn⟩
section RR
variable {l : Launch} {e : hv_Ev} {σ : hv_S} {T : Nat → Nat} {n bs p : Nat}
theorem y_next {Φ : Int32 → hv_S → Prop} (h : rdM T n bs p σ) (k : Φ (seM (seeN T n p)) σ) : hv_CI l (hv_e2 e) 0 m_X10_next [.ref 60] σ Φ := by
  obtain ⟨h1, h2, h3, h4, h5, h6, h7⟩ := h
  refine B_X10_next ?_
  rw [h4, h5, h6, nI_add, nI_leI (by omega) (by omega), nI_clamp (by omega)]
  unfold seeN at k
  refine ⟨fun q => ?_, fun q => ⟨vp_in_nI (by omega) (by decide), ?_⟩⟩
  · rw [if_neg (by omega)] at k; exact k
  · obtain ⟨t1, t2⟩ := h3 p (by omega)
    rw [if_pos (by omega)] at k
    unfold seM at k
    rw [if_pos t2] at k
    rw [t1]; exact k
theorem y_isDigit {Φ : Int32 → hv_S → Prop} (h : rdM T n bs p σ) (k : Φ (bI (isDg (seeN T n p))) σ) : hv_CI l (hv_e2 e) 1 m_X10_isDigit [.ref 60] σ Φ := by
  have hs : (nI 48 ≤ seM (seeN T n p) ∧ seM (seeN T n p) ≤ nI 57) ↔ (48 ≤ seeN T n p ∧ seeN T n p ≤ 57) := by
    rw [seM_in (lo := 48) (hi := 57) (by decide)]
    exact ⟨fun q => q.elim id (fun z => absurd z.1 (by decide)), Or.inl⟩
  refine B_X10_isDigit (y_next h (y_in (fun q => ⟨Or.inl rfl, ?_⟩) (fun q1 q2 => ⟨Or.inr rfl, ?_⟩)))
  · have : isDg (seeN T n p) = false := decide_eq_false (fun z => q (hs.mpr z))
    rw [this] at k; exact k
  · have : isDg (seeN T n p) = true := decide_eq_true (hs.mp ⟨q1, q2⟩)
    rw [this] at k; exact k
theorem y_takes {Φ : Int32 → hv_S → Prop} {c : Nat} (hc : c < 128) (h : rdM T n bs p σ) (k0 : seeN T n p ≠ c → Φ 0 σ) (k1 : seeN T n p = c → ∀ σ', NE σ σ' → rdM T n bs (p + 1) σ' → Φ 1 σ') : hv_CI l (hv_e2 e) 1 m_X10_takes [.ref 60, .int (nI c)] σ Φ := by
  refine B_X10_takes _ (y_next h ?_)
  rw [seM_eq hc]
  refine ⟨fun q => ?_, k0⟩
  have hl := see_lt q (by omega)
  have e1 : σ.1 60 16 + 1 = nI (p + 1) := by rw [h.2.2.2.2.2.1, nI_1]
  rw [e1]
  exact k1 q _ (NE.u (Or.inl rfl)) (h.to (NE.u (Or.inl rfl)) (by rw [ui_1, if_pos ⟨rfl, rfl⟩]) hl)
theorem y_takesWord {Φ : Int32 → hv_S → Prop} {w len : Nat} {code : Int32} (hlen : (wrd w).length = len + 1) (h5 : len ≤ 4) (h32 : (wrd w).getD len 0 = 32) (hc : ∀ i, i < len → 96 + ((code >>> ((5 * (nI (len - i) - 1)) &&& 31)) &&& 31) = nI ((wrd w).getD i 0) ∧ (wrd w).getD i 0 < 128) (h : rdM T n bs p σ)
    (k : ∀ σ', NE σ σ' → rdM T n bs (wdS T n (wrd w) p).2 σ' → Φ (if (wdS T n (wrd w) p).1 = true then 1 else 0) σ') : hv_CI l (hv_e2 e) 2 m_X10_takesWord [.ref 60, .int code, .int (nI len)] σ Φ := by
  refine B_X10_takesWord _ _ ?_
  have ed : ∀ i, i < len + 1 → (wrd w).drop i = (wrd w).getD i 0 :: (wrd w).drop (i + 1) := fun i hi => by
    rw [List.drop_eq_getElem_cons (by omega), List.getD_eq_getElem?_getD, List.getElem?_eq_getElem (by omega)]; rfl
  suffices ∀ d i p σ', i + d = len → NE σ σ' → rdM T n bs p σ' → (∀ σ'', NE σ σ'' → rdM T n bs (wdS T n ((wrd w).drop i) p).2 σ'' → Φ (if (wdS T n ((wrd w).drop i) p).1 = true then 1 else 0) σ'') → L_X10_takesWord_4 l e Φ code (nI (len - i) - 1) σ' by
    exact this len 0 p σ (by omega) (NE.refl σ) h k
  intro d
  induction d with
  | zero =>
    intro i p σ' hi hE h k
    have hil : i = len := by omega
    subst hil
    rw [ed i (by omega), h32, List.drop_of_length_le (by omega)] at k
    have e1 : wdS T n [32] p = if seeN T n p = 32 then (true, p + 1) else (false, p) := rfl
    rw [e1] at k
    rw [Nat.sub_self]
    refine B_X10_takesWord_4 _ _ ⟨fun _ => y_takes (c := 32) (by decide) h (fun q => ⟨Or.inl rfl, ?_⟩) (fun q σ2 hE2 h2 => ⟨Or.inr rfl, ?_⟩), fun q => absurd (by decide) q⟩
    · rw [if_neg q] at k; exact k σ' hE h
    · rw [if_pos q] at k; exact k σ2 (hE.trans hE2) h2
  | succ d ih =>
    intro i p σ' hi hE h k
    obtain ⟨c1, c2⟩ := hc i (by omega)
    rw [ed i (by omega)] at k
    have e1 : wdS T n ((wrd w).getD i 0 :: (wrd w).drop (i + 1)) p = if seeN T n p = (wrd w).getD i 0 then wdS T n ((wrd w).drop (i + 1)) (p + 1) else (false, p) := rfl
    rw [e1] at k
    have e2 : nI (len - i) - 1 = nI (len - (i + 1)) := by rw [show len - i = (len - (i + 1)) + 1 by omega, nI_pred]
    refine B_X10_takesWord_4 _ _ ⟨fun q => absurd q (by rw [e2]; exact nI_pos (by omega)), fun _ => ?_⟩
    rw [c1]
    refine y_takes c2 h (fun q => ⟨fun z => absurd rfl z, fun _ => ?_⟩) (fun q σ2 hE2 h2 => ⟨fun _ => ?_, fun z => absurd z (by decide)⟩)
    · rw [if_neg q] at k; exact k σ' hE h
    · rw [if_pos q] at k
      rw [e2, ← Int32.sub_eq_add_neg]
      exact ih (i + 1) (p + 1) σ2 (by omega) (hE.trans hE2) h2 k
/-- a number; ab: 1 where it must be above 0 -/
def numR (T : Nat → Nat) (n : Nat) (ab : Bool) (s : Nat × Nat × Nat) : Option Nat × Nat :=
  if s.2.2 = 0 then (none, s.1) else if ab = true ∧ s.2.1 = 0 then (none, if s.2.2 = 3 then s.1 - 1 else s.1) else (some s.2.1, s.1)
theorem y_takesNumber {Φ : Int32 → hv_S → Prop} (ab : Bool) (h : rdM T n bs p σ)
    (k0 : ∀ q, numR T n ab (fgP T n p) = (none, q) → ∀ σ', NE σ σ' → rdM T n bs q σ' → Φ 0 σ')
    (k1 : ∀ v q, numR T n ab (fgP T n p) = (some v, q) → ∀ σ', NE σ σ' → rdM T n bs q σ' → σ'.1 60 17 = nI v → Φ 1 σ') : hv_CI l (hv_e2 e) 2 m_X10_takesNumber [.ref 60, .int (bI ab)] σ Φ := by
  have hpn := h.2.2.2.2.2.2
  have ok := fgP_ok (T := T) (n := n) hpn
  have e1 : fgP T n p = if isDg (seeN T n p) = true then fgL T n 2 (p + 1) (0 * 10 + (seeN T n p - 48)) 1 else (p, 0, 0) := rfl
  refine B_X10_takesNumber _ (y_isDigit h ?_)
  cases cd : isDg (seeN T n p) with
  | false =>
    rw [cd, if_neg (by decide)] at e1
    refine ⟨fun q => absurd rfl q, fun _ => k0 p ?_ σ (NE.refl σ) h⟩
    rw [e1]; rfl
  | true =>
    refine ⟨fun _ => ?_, fun q => absurd q (by decide)⟩
    have hb0 : bI ab = 0 ↔ ab = false := bI_0 ab
    -- behind the last figure
    have fin : ∀ s σ', fgP T n p = s → 0 < s.2.2 → ¬ (ab = true ∧ s.2.1 = 0 ∧ s.2.2 = 3) → NE σ σ' → rdM T n bs s.1 σ' → σ'.1 60 17 = nI s.2.1 → (bI ab = 0 → Φ 1 σ') ∧ (¬ bI ab = 0 → ((σ'.1 60 17 ≤ 0 → Φ 0 σ') ∧ (¬ σ'.1 60 17 ≤ 0 → Φ 1 σ'))) := fun s σ' hs hs0 h3 hE h2 h17 => by
      rw [hs] at k0 k1 ok
      unfold numR at k0 k1
      rw [if_neg (by omega)] at k0 k1
      rw [hb0, h17]
      refine ⟨fun q => ?_, fun q => ⟨fun q2 => ?_, fun q2 => ?_⟩⟩
      · rw [if_neg (fun z => by rw [q] at z; exact absurd z.1 (by decide))] at k1
        exact k1 _ _ rfl σ' hE h2 h17
      · have z0 : s.2.1 = 0 := by have := (nI_leI (b := 0) (by omega) (by decide)).mp q2; omega
        have za : ab = true := by simpa using q
        rw [if_pos ⟨za, z0⟩] at k0
        refine k0 _ rfl σ' hE ?_
        rw [if_neg (fun z => h3 ⟨za, z0, z⟩)]; exact h2
      · have z0 : ¬ s.2.1 = 0 := fun z => q2 (by rw [z]; decide)
        rw [if_neg (fun z => z0 z.2)] at k1
        exact k1 _ _ rfl σ' hE h2 h17
    suffices ∀ f i p' v σ', i + f = 3 → NE σ σ' → rdM T n bs p' σ' → v < 10 ^ i → σ'.1 60 17 = nI v → fgP T n p = fgL T n f p' v i → (i = 0 → isDg (seeN T n p') = true) → (i = 3 → ¬ (ab = true ∧ v = 0)) → L_X10_takesNumber_16 l e Φ (bI ab) (nI i) σ' by
      refine this 3 0 p 0 _ rfl (NE.u (Or.inr rfl)) (h.to (NE.u (Or.inr rfl)) ?_ hpn) (by decide) (by rw [ui_1, if_pos ⟨rfl, rfl⟩]; rfl) rfl (fun _ => cd) (fun q => absurd q (by decide))
      rw [ui_1, if_neg (by decide)]; exact h.2.2.2.2.2.1
    intro f
    induction f with
    | zero =>
      intro i p' v σ' hi hE h2 hv h17 hfg hd h3
      have hi3 : i = 3 := by omega
      subst hi3
      refine B_X10_takesNumber_16 _ _ ⟨fun _ => fin (p', v, 3) σ' hfg (show 0 < 3 by decide) (fun z => h3 rfl ⟨z.1, z.2.1⟩) hE h2 h17, fun q => absurd (nI_le (a := 3) (b := 3) (by decide) (by decide)) q⟩
    | succ f ih =>
      intro i p' v σ' hi hE h2 hv h17 hfg hd h3
      have e2 : fgL T n (f + 1) p' v i = if isDg (seeN T n p') = true then fgL T n f (p' + 1) (v * 10 + (seeN T n p' - 48)) (i + 1) else (p', v, i) := rfl
      rw [e2] at hfg
      refine B_X10_takesNumber_16 _ _ ⟨fun q => absurd q (nI_ge (a := i) (b := 3) (by omega) (by decide)), fun _ => y_isDigit h2 ?_⟩
      cases cd2 : isDg (seeN T n p') with
      | false =>
        rw [cd2, if_neg (by decide)] at hfg
        have hi0 : i ≠ 0 := fun z => by rw [hd z] at cd2; cases cd2
        exact ⟨fun _ => fin (p', v, i) σ' hfg (by show 0 < i; omega) (fun z => by have : i = 3 := z.2.2; omega) hE h2 h17, fun q => absurd rfl q⟩
      | true =>
        rw [cd2, if_pos rfl] at hfg
        obtain ⟨d1, d2⟩ := isDg_lt cd2
        have hl := see_lt (T := T) (n := n) (p := p') rfl (by omega)
        have hpw : 10 ^ (i + 1) = 10 ^ i * 10 := Nat.pow_succ _ _
        have hi2 : 10 ^ i ≤ 10 ^ 2 := Nat.pow_le_pow_right (by decide) (by omega)
        have go : ¬ (i = 2 ∧ ab = true ∧ v * 10 + (seeN T n p' - 48) = 0) → L_X10_takesNumber_55 l e Φ (bI ab) (nI i) σ' := fun hno => by
          refine B_X10_takesNumber_55 _ _ (y_next h2 ?_)
          have ev : ((10 : Int32) * σ'.1 60 17) + seM (seeN T n p') - 48 = nI (v * 10 + (seeN T n p' - 48)) := by
            have es : seM (seeN T n p') = nI (seeN T n p') := (seM_eq (by omega)).mpr rfl
            rw [es, h17, show (10 : Int32) = nI 10 from rfl, pk_mul, nI_add, show (48 : Int32) = nI 48 from rfl, pk_sub (by omega)]
            congr 1; omega
          have ep : σ'.1 60 16 + 1 = nI (p' + 1) := by rw [h2.2.2.2.2.2.1, nI_1]
          rw [ev, ep, nI_1]
          have hE2 : NE σ' (hv_ui (hv_ui σ' 60 17 (nI (v * 10 + (seeN T n p' - 48)))) 60 16 (nI (p' + 1))) := (NE.u (Or.inr rfl)).trans (NE.u (Or.inl rfl))
          refine ih (i + 1) (p' + 1) (v * 10 + (seeN T n p' - 48)) _ (by omega) (hE.trans hE2) (h2.to hE2 (by rw [ui_1, if_pos ⟨rfl, rfl⟩]) hl) (by omega) ?_ hfg (fun q => absurd q (by omega)) (fun q z => hno ⟨by omega, z.1, z.2⟩)
          rw [ui_1, if_neg (by decide), ui_1, if_pos ⟨rfl, rfl⟩]
        refine ⟨fun q => absurd q (by decide), fun _ => ⟨fun q => go (fun z => ?_), fun q => ⟨fun q2 => go (fun z => q2 (by rw [z.1]; rfl)), fun q2 => ?_⟩⟩⟩
        · rw [hb0.mp q] at z; exact absurd z.2.1 (by decide)
        · have hi2' : i = 2 := (nI_eq (b := 2) (by omega) (by decide)).mp q2
          rw [h17]
          refine ⟨fun q3 => go (fun z => q3 (by rw [show v = 0 by omega]; rfl)), fun q3 => y_next h2 ?_⟩
          have hv0 : v = 0 := (nI_eq (b := 0) (by omega) (by decide)).mp q3
          have c48 : seM (seeN T n p') = 48 ↔ seeN T n p' = 48 := seM_eq (k := 48) (by decide)
          rw [ne_eq, c48]
          refine ⟨fun q4 => go (fun z => q4 (by omega)), fun q4 => ?_⟩
          have za : ab = true := by
            cases ab with
            | true => rfl
            | false => exact absurd rfl q
          have hf0 : f = 0 := by omega
          subst hf0
          have hs : fgP T n p = (p' + 1, v * 10 + (seeN T n p' - 48), i + 1) := hfg
          refine k0 p' ?_ σ' hE h2
          rw [hs]
          unfold numR
          rw [if_neg (by show ¬ i + 1 = 0; omega), if_pos ⟨za, by show v * 10 + (seeN T n p' - 48) = 0; omega⟩, if_pos (by show i + 1 = 3; omega)]
          rfl
end RR
