-- THE CLASS READS
set_option maxHeartbeats 4000000 in
set_option maxRecDepth 100000 in
theorem B_J0_charAt4 {l : Launch} {E : hv_E} (w : Nat) (hw : w < 7) (x1 : Int32) {σ : hv_S} {Φ : Int32 → hv_S → Prop} (h : hv_CI l E 0 m_J0_isLatin1_aae02 [.ref (1000 + w)] σ (fun v2 s1 => ((v2 = 0 → False) ∧ (¬ v2 = 0 → hv_CI l E 2 m_J1_charAt_3b067 [.ref (2000 + w), .int x1] s1 (fun v5 s4 => (narrow .char (.int v5) = .int v5 ∧ Φ v5 s4)))))) : hv_CI l E 4 m_J0_charAt_5068e [.ref (1000 + w), .int x1] σ Φ := by
  refine hv_entI (by decide) (Nat.le_of_ble_eq_true rfl) ?_
  show hv_TW l E (hv_rm 4) 0 0 m_J0_charAt_5068e hv_no (hv_ZI E Φ) 0 [(0, .ref (1000 + w)), (1, .int x1)] [] σ
  refine T_aload_n dJ0_charAt_5068e_0 rfl 0 rfl ?_
  refine T_VIs (As := []) dJ0_charAt_5068e_1 ⟨mw_J0_isLatin1_aae02, (hv_in2 236 (by decide +kernel) rfl), (hv_in2 237 (by decide +kernel) rfl), Or.inl (hv_in2 235 (by decide +kernel) rfl)⟩ hw rfl rfl (Nat.le_of_ble_eq_true rfl) (hv_ok1 rfl) rfl h (fun v2 s1 h3 => ?_)
  refine T_if_eq (tgt := 16) dJ0_charAt_5068e_4 (by decide) (fun c7 => ?_) (fun c7 => ?_)
  · refine T_aload_n dJ0_charAt_5068e_16 rfl 0 rfl ?_
    refine T_getSv dJ0_charAt_5068e_17 hw (hv_in7 21 (by decide +kernel) rfl) ?_
    refine T_iload_n dJ0_charAt_5068e_20 rfl 1 rfl ?_
    exact False.elim (h3.1 c7)
  · refine T_aload_n dJ0_charAt_5068e_7 rfl 0 rfl ?_
    refine T_getSv dJ0_charAt_5068e_8 hw (hv_in7 21 (by decide +kernel) rfl) ?_
    refine T_iload_n dJ0_charAt_5068e_11 rfl 1 rfl ?_
    refine T_SI (As := [.ref (2000 + w), .int x1]) dJ0_charAt_5068e_12 ms_J0_495 rfl (Nat.le_of_ble_eq_true rfl) (hv_ok1 rfl) rfl (h3.2 c7) (fun v5 s4 h6 => ?_)
    exact T_xret dJ0_charAt_5068e_15 rfl h6.1 h6.2
def wrd (w : Nat) : List Nat := [[98, 97, 114, 32], [99, 97, 112, 32], [110, 101, 101, 100, 32], [114, 105, 110, 103, 32], [32], [97, 98, 109, 115, 113], [60, 61, 62]].getD w []
theorem wrd_len : ∀ w, w < 7 → hv_len.getD w 0 = (wrd w).length ∧ (wrd w).length ≤ 5 := by decide
theorem wrd_chr : ∀ w, w < 7 → ∀ i, i < (wrd w).length → ((((hv_byt.getD w []).getD i 0) &&& 255).toUInt32 % 65536).toInt32 = nI ((wrd w).getD i 0) ∧ (wrd w).getD i 0 < 128 := by decide
theorem j_length {l : Launch} {E : hv_E} {σ : hv_S} {Φ : Int32 → hv_S → Prop} {w : Nat} (hw : w < 7) (k : Φ (nI (wrd w).length) σ) : hv_CI l E 1 m_J0_length_8abf5 [.ref (1000 + w)] σ Φ := by
  refine B_J0_length_8abf5 w hw (B_J0_coder_7d493 w hw ⟨by decide, ?_⟩)
  have : ∀ w, w < 7 → (Int32.ofNat (hv_len.getD w 0)) >>> ((0 : Int32) &&& 31) = nI (wrd w).length := by decide
  rw [this w hw]; exact k
theorem j_charAt {l : Launch} {E : hv_E} {σ : hv_S} {Φ : Int32 → hv_S → Prop} {w i : Nat} (hw : w < 7) (hi : i < (wrd w).length) (k : Φ (nI ((wrd w).getD i 0)) σ) : hv_CI l E 4 m_J0_charAt_5068e [.ref (1000 + w), .int (nI i)] σ Φ := by
  obtain ⟨l1, l2⟩ := wrd_len w hw
  obtain ⟨c1, c2⟩ := wrd_chr w hw i hi
  have hn : narrow .char (.int (nI ((wrd w).getD i 0))) = .int (nI ((wrd w).getD i 0)) := (pk_charN (by omega)).1
  refine B_J0_charAt4 w hw _ (B_J0_isLatin1_aae02 w hw ⟨fun q => absurd q (by decide), fun _ => B_J1_charAt_3b067 w hw _ (B_J0_checkIndex_df160 _ _ ⟨fun q => absurd q (nI_pos (by omega)), fun _ => ⟨fun _ => ?_, fun q => absurd ?_ q⟩⟩)⟩)
  · rw [l1, nI_clamp (by omega), c1]
    exact ⟨vp_in_nI hi (by omega), hn, hn, k⟩
  · rw [l1]; exact nI_lt hi (by omega)
-- the state while reading
def txI (T : Nat → Nat) (n : Nat) (σ : hv_S) : Prop := n ≤ 100 ∧ ∀ k, k < n → σ.1 10 k = nI (T k) ∧ T k < 256
abbrev hQ : Type := Nat × Nat × Nat × Nat
def pxF (σ0 : hv_S) (r n q : Nat) (σ : hv_S) : Prop := σ.2 = σ0.2 ∧ (∀ k, k ≠ 9 → k ≠ r → k ≠ r + 1 → ∀ j, σ.1 k j = σ0.1 k j) ∧ σ.1 9 1 = nI n ∧ σ.1 9 2 = nI q
def pxI (σ0 : hv_S) (r n p : Nat) (N : hQ) (C : List Int32) (σ : hv_S) : Prop := pxF σ0 r n p σ ∧ (σ.1 r 2 = nI N.1 ∧ σ.1 r 3 = nI N.2.1 ∧ σ.1 r 4 = nI N.2.2.1 ∧ σ.1 r 5 = nI N.2.2.2) ∧ σ.1 r 1 = nI C.length ∧ ∀ j, j < C.length → σ.1 (r + 1) j = C.getD j 0
def kPQ (F : Nat → Prop) (K : Nat × List Int32 × hVl → Prop) : hPR → Prop
  | .inl q => F q
  | .inr a => K a
def kPR (σ0 : hv_S) (r n : Nat) (N : hQ) (C : List Int32) (Φ : Int32 → hv_S → Prop) : hPR → Prop := kPQ (fun q => ∀ σ', pxF σ0 r n q σ' → Φ 0 σ') (fun a => ∀ σ', pxI σ0 r n a.1 N (C ++ a.2.1) σ' → Φ 1 σ')
def seI (c : Nat) : Int32 := if c < 256 then nI c else -1
theorem seI_eq {c k : Nat} (hk : k < 256) : seI c = nI k ↔ c = k := by
  unfold seI
  by_cases h : c < 256
  · rw [if_pos h]; exact nI_eq (by omega) (by omega)
  · rw [if_neg h]
    exact ⟨fun q => absurd q.symm (nI_ne_m1 (by omega)), fun q => absurd q (by omega)⟩
theorem seI_lt {c k : Nat} (hk : k < 256) (h0 : 0 < k) : seI c < nI k ↔ (c < k ∨ 256 ≤ c) := by
  unfold seI
  by_cases h : c < 256
  · rw [if_pos h, nI_ltI (by omega) (by omega)]; omega
  · rw [if_neg h]
    refine ⟨fun _ => Or.inr (by omega), fun _ => ?_⟩
    rw [Int32.lt_iff_toInt_lt, nI_toInt (by omega), show (-1 : Int32).toInt = -1 by decide]
    omega
theorem seI_le {c k : Nat} (hk : k < 256) : seI c ≤ nI k ↔ (c ≤ k ∨ 256 ≤ c) := by
  unfold seI
  by_cases h : c < 256
  · rw [if_pos h, nI_leI (by omega) (by omega)]; omega
  · rw [if_neg h]
    refine ⟨fun _ => Or.inr (by omega), fun _ => ?_⟩
    rw [Int32.le_iff_toInt_le, nI_toInt (by omega), show (-1 : Int32).toInt = -1 by decide]
    omega
section PS
variable {l : Launch} {e : hv_Ev} {σ σ0 : hv_S} {T : Nat → Nat} {n r p : Nat} {N : hQ} {C : List Int32}
theorem pxF.at (h : pxF σ0 r n p σ) (q : Nat) : pxF σ0 r n q (hv_ui σ 9 2 (nI q)) := by
  obtain ⟨h1, h2, h3, h4⟩ := h
  refine ⟨h1, fun k k9 kr kr1 j => ?_, ?_, ?_⟩
  · rw [ui_1, if_neg (fun z => k9 z.1)]; exact h2 k k9 kr kr1 j
  · rw [ui_1, if_neg (by decide)]; exact h3
  · rw [ui_1, if_pos ⟨rfl, rfl⟩]
theorem pxI.n9 (hr : hv_isR r) (h : pxI σ0 r n p N C σ) {j : Nat} {v : Int32} (hj : j ≠ 1) (hj2 : j ≠ 2) : pxI σ0 r n p N C (hv_ui σ 9 j v) := by
  obtain ⟨⟨h1, h2, h3, h4⟩, ⟨h5, h6, h7, h8⟩, h9, h10⟩ := h
  have r9 : r ≠ 9 ∧ r + 1 ≠ 9 := by rcases hr with rfl | rfl <;> decide
  have ur : ∀ i, (hv_ui σ 9 j v).1 r i = σ.1 r i := fun i => by rw [ui_1, if_neg (fun z => r9.1 z.1)]
  refine ⟨⟨h1, fun k k9 kr kr1 i => ?_, ?_, ?_⟩, ⟨by rw [ur]; exact h5, by rw [ur]; exact h6, by rw [ur]; exact h7, by rw [ur]; exact h8⟩, by rw [ur]; exact h9, fun i hi => ?_⟩
  · rw [ui_1, if_neg (fun z => k9 z.1)]; exact h2 k k9 kr kr1 i
  · rw [ui_1, if_neg (fun z => hj z.2.symm)]; exact h3
  · rw [ui_1, if_neg (fun z => hj2 z.2.symm)]; exact h4
  · rw [ui_1, if_neg (fun z => r9.2 z.1)]; exact h10 i hi
theorem pxI.at (hr : hv_isR r) (h : pxI σ0 r n p N C σ) (q : Nat) : pxI σ0 r n q N C (hv_ui σ 9 2 (nI q)) := by
  have hF := h.1.at q
  obtain ⟨⟨h1, h2, h3, h4⟩, ⟨h5, h6, h7, h8⟩, h9, h10⟩ := h
  have r9 : r ≠ 9 ∧ r + 1 ≠ 9 := by rcases hr with rfl | rfl <;> decide
  have ur : ∀ i, (hv_ui σ 9 2 (nI q)).1 r i = σ.1 r i := fun i => by rw [ui_1, if_neg (fun z => r9.1 z.1)]
  refine ⟨hF, ⟨by rw [ur]; exact h5, by rw [ur]; exact h6, by rw [ur]; exact h7, by rw [ur]; exact h8⟩, by rw [ur]; exact h9, fun i hi => ?_⟩
  rw [ui_1, if_neg (fun z => r9.2 z.1)]; exact h10 i hi
theorem x_seen {Φ : Int32 → hv_S → Prop} (hr : hv_isR r) (hT : txI T n σ0) (h : pxF σ0 r n p σ) (hp : p ≤ n) (k : Φ (seI (seeN T n p)) σ) : hv_CI l (hv_e1 e) 0 m_X1_seen [.ref 9] σ Φ := by
  obtain ⟨h1, h2, h3, h4⟩ := h
  have hn := hT.1
  refine B_X1_seen ?_
  rw [h3, h4]
  unfold seeN at k
  refine ⟨fun q => ?_, fun q => ⟨?_, ?_⟩⟩
  · have : ¬ p < n := Nat.not_lt.mpr ((nI_leI (by omega) (by omega)).mp q)
    rw [if_neg this] at k; exact k
  · have : p < n := Nat.lt_of_not_le (fun z => q ((nI_leI (by omega) (by omega)).mpr z))
    exact vp_in_nI (by omega) (by decide)
  · have hpn : p < n := Nat.lt_of_not_le (fun z => q ((nI_leI (by omega) (by omega)).mpr z))
    rw [if_pos hpn] at k
    obtain ⟨t1, t2⟩ := hT.2 p hpn
    unfold seI at k
    rw [if_pos t2] at k
    have r10 : 10 ≠ r ∧ 10 ≠ r + 1 := by rcases hr with rfl | rfl <;> decide
    rw [nI_clamp (by omega), h2 10 (by decide) r10.1 r10.2, t1]
    exact k
theorem isDg_lt {c : Nat} (h : isDg c = true) : 48 ≤ c ∧ c ≤ 57 := of_decide_eq_true h
theorem x_figs {Φ : Int32 → hv_S → Prop} (hr : hv_isR r) (hT : txI T n σ0) (h : pxI σ0 r n p N C σ) (hp : p ≤ n)
    (k : ∀ σ', pxI σ0 r n (fgP T n p).1 N C σ' → σ'.1 9 3 = nI (fgP T n p).2.1 → σ'.1 9 4 = nI (fgP T n p).2.2 → Φ (if (fgP T n p).2.2 = 0 then 0 else 1) σ') : hv_CI l (hv_e1 e) 1 m_X1_figuresOf [.ref 9] σ Φ := by
  have hn := hT.1
  -- at the end
  have fin : ∀ s σ', fgP T n p = s → pxI σ0 r n s.1 N C σ' → σ'.1 9 3 = nI s.2.1 → σ'.1 9 4 = nI s.2.2 → L_X1_figuresOf_79 l e Φ σ' := fun s σ' hs h1 h3 h4 => by
    have hok := fgP_ok (T := T) (n := n) hp
    rw [hs] at hok k
    refine B_X1_figuresOf_79 ?_
    rw [h4]
    refine ⟨fun q => ?_, fun q => ?_⟩
    · have q0 : s.2.2 = 0 := by have := (nI_leI (b := 0) (by omega) (by decide)).mp q; omega
      have := k σ' h1 h3 h4
      rw [if_pos q0] at this; exact this
    · have q0 : ¬ s.2.2 = 0 := fun z => q (by rw [z]; decide)
      have := k σ' h1 h3 h4
      rw [if_neg q0] at this; exact this
  refine B_X1_figuresOf ?_
  suffices ∀ f i p v σ, i + f = 3 → p ≤ n → v < 10 ^ i → pxI σ0 r n p N C σ → σ.1 9 3 = nI v → σ.1 9 4 = nI i → (∀ s σ', fgL T n f p v i = s → pxI σ0 r n s.1 N C σ' → σ'.1 9 3 = nI s.2.1 → σ'.1 9 4 = nI s.2.2 → L_X1_figuresOf_79 l e Φ σ') → L_X1_figuresOf_12 l e Φ (nI i) σ by
    refine this 3 0 p 0 _ (by omega) hp (by decide) ((h.n9 hr (by decide) (by decide)).n9 hr (by decide) (by decide)) ?_ ?_ fin
    · simp only [ui_1]; rfl
    · simp only [ui_1]; rfl
  intro f
  induction f with
  | zero =>
    intro i p v σ hi hp hv h h3 h4 kk
    exact B_X1_figuresOf_12 _ ⟨fun _ => kk _ σ rfl h h3 h4, fun q => absurd (by rw [show i = 3 by omega]; exact nI_le (a := 3) (b := 3) (by decide) (by decide)) q⟩
  | succ f ih =>
    intro i p v σ hi hp hv h h3 h4 kk
    have e1 : fgL T n (f + 1) p v i = if isDg (seeN T n p) = true then fgL T n f (p + 1) (v * 10 + (seeN T n p - 48)) (i + 1) else (p, v, i) := rfl
    rw [e1] at kk
    refine B_X1_figuresOf_12 _ ⟨fun q => absurd q (nI_ge (a := i) (b := 3) (by omega) (by decide)), fun _ => x_seen hr hT h.1 hp ?_⟩
    have cl : seI (seeN T n p) < 48 ↔ (seeN T n p < 48 ∨ 256 ≤ seeN T n p) := seI_lt (k := 48) (by decide) (by decide)
    have cr : seI (seeN T n p) ≤ 57 ↔ (seeN T n p ≤ 57 ∨ 256 ≤ seeN T n p) := seI_le (k := 57) (by decide)
    rw [cl, cr]
    refine ⟨fun q => ?_, fun q => ⟨fun q2 => ?_, fun q2 => ?_⟩⟩
    · rw [if_neg (fun z => by have := isDg_lt z; omega)] at kk
      exact kk _ σ rfl h h3 h4
    · have hd : isDg (seeN T n p) = true := decide_eq_true (by omega)
      rw [if_pos hd] at kk
      have hpn := see_lt (T := T) (n := n) (p := p) rfl (by omega)
      have hi2 : 10 ^ i ≤ 10 ^ 2 := Nat.pow_le_pow_right (by decide) (by omega)
      have hpw : 10 ^ (i + 1) = 10 ^ i * 10 := Nat.pow_succ _ _
      have e3 : σ.1 9 3 * 10 + seI (seeN T n p) - 48 = nI (v * 10 + (seeN T n p - 48)) := by
        unfold seI
        rw [if_pos (by omega), h3, show (10 : Int32) = nI 10 from rfl, pk_mul, nI_add, show (48 : Int32) = nI 48 from rfl, pk_sub (by omega)]
        congr 1; omega
      rw [nI_1]
      have h' : pxI σ0 r n (p + 1) N C (hv_ui (hv_ui (hv_ui σ 9 3 (((σ.1 9 3 * 10) + seI (seeN T n p)) - 48)) 9 4 (σ.1 9 4 + 1)) 9 2 (σ.1 9 2 + 1)) := by
        have := ((h.n9 hr (j := 3) (v := ((σ.1 9 3 * 10) + seI (seeN T n p)) - 48) (by decide) (by decide)).n9 hr (j := 4) (v := σ.1 9 4 + 1) (by decide) (by decide)).at hr (p + 1)
        rw [← nI_1, ← h.1.2.2.2] at this
        exact this
      refine ih (i + 1) (p + 1) _ _ (by omega) hpn (by omega) h' ?_ ?_ kk
      · simp only [ui_1]; exact e3
      · simp only [ui_1]; show σ.1 9 4 + 1 = _; rw [h4, nI_1]
    · rw [if_neg (fun z => by have := isDg_lt z; omega)] at kk
      exact kk _ σ rfl h h3 h4
def wdS (T : Nat → Nat) (n : Nat) : List Nat → Nat → Bool × Nat
  | [], p => (true, p)
  | c :: r, p => if seeN T n p = c then wdS T n r (p + 1) else (false, p)
theorem wd_ok {T : Nat → Nat} {n : Nat} : ∀ (w : List Nat) (p : Nat), (∀ c, c ∈ w → c < 256) → p ≤ n → p ≤ (wdS T n w p).2 ∧ (wdS T n w p).2 ≤ n := by
  intro w
  induction w with
  | nil => intro p _ hp; exact ⟨Nat.le_refl p, hp⟩
  | cons c w ih =>
    intro p hw hp
    have e : wdS T n (c :: w) p = if seeN T n p = c then wdS T n w (p + 1) else (false, p) := rfl
    rw [e]
    by_cases q : seeN T n p = c
    · rw [if_pos q]
      have := ih (p + 1) (fun x hx => hw x (List.mem_cons_of_mem _ hx)) (see_lt q (hw c (List.mem_cons_self)))
      exact ⟨by omega, this.2⟩
    · rw [if_neg q]; exact ⟨Nat.le_refl p, hp⟩
theorem x_word {Φ : Int32 → hv_S → Prop} {w : Nat} (hw : w < 7) (hr : hv_isR r) (hT : txI T n σ0) (h : pxI σ0 r n p N C σ) (hp : p ≤ n)
    (k : ∀ σ', pxI σ0 r n (wdS T n (wrd w) p).2 N C σ' → Φ (if (wdS T n (wrd w) p).1 = true then 1 else 0) σ') : hv_CI l (hv_e1 e) 5 m_X1_word [.ref 9, .ref (1000 + w)] σ Φ := by
  obtain ⟨l1, l2⟩ := wrd_len w hw
  refine B_X1_word w hw ?_
  suffices ∀ d i p σ, i + d = (wrd w).length → p ≤ n → pxI σ0 r n p N C σ → (∀ σ', pxI σ0 r n (wdS T n ((wrd w).drop i) p).2 N C σ' → Φ (if (wdS T n ((wrd w).drop i) p).1 = true then 1 else 0) σ') → L_X1_word_2 l e w Φ (nI i) σ by
    exact this (wrd w).length 0 p σ (by omega) hp h k
  intro d
  induction d with
  | zero =>
    intro i p σ hi hp h k
    rw [List.drop_of_length_le (by omega)] at k
    exact B_X1_word_2 w hw _ (j_length hw ⟨fun _ => k σ h, fun q => absurd (nI_le (by omega) (by omega)) q⟩)
  | succ d ih =>
    intro i p σ hi hp h k
    obtain ⟨c1, c2⟩ := wrd_chr w hw i (by omega)
    have ed : (wrd w).drop i = (wrd w).getD i 0 :: (wrd w).drop (i + 1) := by
      rw [List.drop_eq_getElem_cons (by omega), List.getD_eq_getElem?_getD, List.getElem?_eq_getElem (by omega)]; rfl
    rw [ed] at k
    have e1 : wdS T n ((wrd w).getD i 0 :: (wrd w).drop (i + 1)) p = if seeN T n p = (wrd w).getD i 0 then wdS T n ((wrd w).drop (i + 1)) (p + 1) else (false, p) := rfl
    rw [e1] at k
    refine B_X1_word_2 w hw _ (j_length hw ⟨fun q => absurd q (nI_ge (by omega) (by omega)), fun _ => x_seen hr hT h.1 hp (j_charAt hw (by omega) ?_)⟩)
    rw [seI_eq (by omega), h.1.2.2.2, nI_1, nI_1]
    refine ⟨fun q => ?_, fun q => ?_⟩
    · rw [if_pos q] at k
      exact ih (i + 1) (p + 1) _ (by omega) (see_lt q (by omega)) (h.at hr (p + 1)) k
    · rw [if_neg q] at k
      exact k σ h
theorem x_signOf {Φ : Int32 → hv_S → Prop} {w : Nat} (hw : w < 7) (hr : hv_isR r) (hT : txI T n σ0) (h : pxI σ0 r n p N C σ) (hp : p ≤ n)
    (k1 : ∀ i, i < (wrd w).length → seeN T n p = (wrd w).getD i 0 → (∀ j, j < i → seeN T n p ≠ (wrd w).getD j 0) → ∀ σ', pxI σ0 r n (p + 1) N C σ' → Φ (nI i) σ') (k0 : (∀ j, j < (wrd w).length → seeN T n p ≠ (wrd w).getD j 0) → Φ (-1) σ) :
    hv_CI l (hv_e1 e) 5 m_X1_signOf [.ref 9, .ref (1000 + w)] σ Φ := by
  obtain ⟨l1, l2⟩ := wrd_len w hw
  refine B_X1_signOf w hw (x_seen hr hT h.1 hp ?_)
  suffices ∀ d i, i + d = (wrd w).length → (∀ j, j < i → seeN T n p ≠ (wrd w).getD j 0) → L_X1_signOf_7 l e w Φ (seI (seeN T n p)) (nI i) σ by
    exact this (wrd w).length 0 (by omega) (fun j hj => by omega)
  intro d
  induction d with
  | zero =>
    intro i hi hj
    exact B_X1_signOf_7 w hw _ _ (j_length hw ⟨fun _ => k0 (fun j h2 => hj j (by omega)), fun q => absurd (nI_le (by omega) (by omega)) q⟩)
  | succ d ih =>
    intro i hi hj
    obtain ⟨c1, c2⟩ := wrd_chr w hw i (by omega)
    refine B_X1_signOf_7 w hw _ _ (j_length hw ⟨fun q => absurd q (nI_ge (by omega) (by omega)), fun _ => j_charAt hw (by omega) ?_⟩)
    have ec : nI ((wrd w).getD i 0) = seI (seeN T n p) ↔ seeN T n p = (wrd w).getD i 0 := by
      rw [← seI_eq (c := seeN T n p) (k := (wrd w).getD i 0) (by omega)]; exact ⟨fun q => q.symm, fun q => q.symm⟩
    rw [ne_eq, ec, h.1.2.2.2, nI_1, nI_1]
    refine ⟨fun q => ih (i + 1) (by omega) (fun j h2 => ?_), fun q => k1 i (by omega) q hj _ (h.at hr (p + 1))⟩
    by_cases c : j = i
    · rw [c]; exact q
    · exact hj j (by omega)
theorem getD_ap (L : List Int32) (b : Int32) (j : Nat) : (L ++ [b]).getD j 0 = if j < L.length then L.getD j 0 else if j = L.length then b else 0 := by
  simp only [List.getD_eq_getElem?_getD, List.getElem?_append]
  split
  · rfl
  · next h =>
    split
    · next h2 => subst h2; simp
    · next h2 =>
      rw [List.getElem?_eq_none (by simp; omega)]; rfl
theorem x_add {Φ : hv_S → Prop} {x : Int32} (hr : hv_isR r) (h : pxI σ0 r n p N C σ) (hC : C.length < 100) (k : ∀ σ', pxI σ0 r n p N (C ++ [x]) σ' → Φ σ') : hv_CV l (hv_e1 e) 0 m_X4_add [.ref r, .int x] σ Φ := by
  obtain ⟨⟨h1, h2, h3, h4⟩, ⟨h5, h6, h7, h8⟩, h9, h10⟩ := h
  refine B_X4_add r hr _ ?_
  rw [h9, nI_clamp (by omega)]
  have r9 : r ≠ 9 ∧ r + 1 ≠ 9 := by rcases hr with rfl | rfl <;> decide
  have e1 : (hv_ui σ (r + 1) C.length x).1 r 1 + 1 = nI (C.length + 1) := by rw [ui_1, if_neg (fun z => by omega), h9, nI_1]
  rw [e1]
  have ur : ∀ i, i ≠ 1 → (hv_ui (hv_ui σ (r + 1) C.length x) r 1 (nI (C.length + 1))).1 r i = σ.1 r i := fun i hi => by rw [ui_1, if_neg (fun z => hi z.2), ui_1, if_neg (fun z => by omega)]
  refine ⟨fun q => absurd q (nI_ge (a := C.length) (b := 100) hC (by decide)), fun _ => ⟨vp_in_nI hC (by decide), k _ ⟨⟨h1, fun k k9 kr kr1 i => ?_, ?_, ?_⟩, ⟨by rw [ur _ (by decide)]; exact h5, by rw [ur _ (by decide)]; exact h6, by rw [ur _ (by decide)]; exact h7, by rw [ur _ (by decide)]; exact h8⟩, ?_, fun j hj => ?_⟩⟩⟩
  · rw [ui_1, if_neg (fun z => kr z.1), ui_1, if_neg (fun z => kr1 z.1)]; exact h2 k k9 kr kr1 i
  · rw [ui_1, if_neg (fun z => r9.1 z.1.symm), ui_1, if_neg (fun z => r9.2 z.1.symm)]; exact h3
  · rw [ui_1, if_neg (fun z => r9.1 z.1.symm), ui_1, if_neg (fun z => r9.2 z.1.symm)]; exact h4
  · rw [ui_1, if_pos ⟨rfl, rfl⟩, List.length_append]; rfl
  · rw [List.length_append] at hj
    have hj : j < C.length + 1 := hj
    rw [ui_1, if_neg (fun z => by omega), ui_1, getD_ap]
    by_cases c : j = C.length
    · subst c; rw [if_pos ⟨rfl, rfl⟩, if_neg (Nat.lt_irrefl _), if_pos rfl]
    · rw [if_neg (fun z => c z.2), if_pos (by omega)]; exact h10 j (by omega)
theorem lt_all (c : Nat) : (∀ i, i < 5 → c = (wrd 5).getD i 0 → ltI c = i) ∧ ((∀ j, j < 5 → c ≠ (wrd 5).getD j 0) → ltI c = 5) := by
  refine ⟨fun i hi hc => ?_, fun h => ?_⟩
  · rcases (show i = 0 ∨ i = 1 ∨ i = 2 ∨ i = 3 ∨ i = 4 by omega) with rfl | rfl | rfl | rfl | rfl <;> subst hc <;> decide
  · unfold ltI
    have q0 : c ≠ 97 := h 0 (by decide)
    have q1 : c ≠ 98 := h 1 (by decide)
    have q2 : c ≠ 109 := h 2 (by decide)
    have q3 : c ≠ 115 := h 3 (by decide)
    have q4 : c ≠ 113 := h 4 (by decide)
    rw [if_neg q0, if_neg q1, if_neg q2, if_neg q3, if_neg q4]
theorem si_all (c : Nat) : (∀ i, i < 3 → c = (wrd 6).getD i 0 → c = 60 + i) ∧ ((∀ j, j < 3 → c ≠ (wrd 6).getD j 0) → c < 60 ∨ 62 < c) := by
  refine ⟨fun i hi hc => ?_, fun h => ?_⟩
  · rcases (show i = 0 ∨ i = 1 ∨ i = 2 by omega) with rfl | rfl | rfl <;> exact hc
  · have h0 : c ≠ 60 := h 0 (by decide)
    have h1 : c ≠ 61 := h 1 (by decide)
    have h2 : c ≠ 62 := h 2 (by decide)
    omega
theorem rR (hr : hv_isR r) (h95 : σ0.2.2 9 5 = r) (h : pxF σ0 r n p σ) : σ.2.2 9 5 = r := by rw [h.1]; exact h95
theorem x_test {Φ : Int32 → hv_S → Prop} (hr : hv_isR r) (h95 : σ0.2.2 9 5 = r) (hT : txI T n σ0) (h : pxI σ0 r n p N C σ) (hp : p ≤ n) (hC : C.length ≤ p) (k : kPR σ0 r n N C Φ (tsP T n p)) : hv_CI l (hv_e1 e) 6 m_X1_test [.ref 9] σ Φ := by
  have hn := hT.1
  unfold tsP at k
  refine B_X1_test (x_signOf (w := 5) (by decide) hr hT h hp (fun i hi hc hj σ1 h1 => ⟨fun _ => ?_, fun q => absurd (nI_pos' (by have : i < 5 := hi; omega)) q⟩) (fun hj => ⟨fun q => absurd q (by decide), fun _ => ?_⟩))
  · have hi5 : i < 5 := hi
    have el : ltI (seeN T n p) = i := (lt_all _).1 i hi5 hc
    have hl1 : p < n := ltI_lt (T := T) (n := n) (p := p) (by omega)
    rw [if_neg (by omega)] at k
    refine x_signOf (w := 6) (by decide) hr hT h1 hl1 (fun s hs hc2 hj2 σ2 h2 => ⟨fun q => absurd q (nI_pos (by have : s < 3 := hs; omega)), fun _ => ?_⟩) (fun hj2 => ⟨fun _ => ?_, fun q => absurd (by decide) q⟩)
    · have hs3 : s < 3 := hs
      have es : seeN T n (p + 1) = 60 + s := (si_all _).1 s hs3 hc2
      have hl2 : p + 1 < n := see_lt es (by omega)
      rw [if_neg (by omega)] at k
      have hok := fgP_ok (T := T) (n := n) (p := p + 2) hl2
      refine x_figs hr hT h2 hl2 (fun σ3 h3 e3 e4 => ?_)
      have k : kPR σ0 r n N C Φ (if (fgP T n (p + 2)).2.2 = 0 then .inl (p + 2) else .inr ((fgP T n (p + 2)).1, [nI (tsC T n p)], fun F => tru F (tsC T n p))) := k
      have h3 : pxI σ0 r n (fgP T n (p + 2)).1 N C σ3 := h3
      have e3 : σ3.1 9 3 = nI (fgP T n (p + 2)).2.1 := e3
      have hC100 : C.length < 100 := by omega
      have et : tsC T n p = (i * 3 + s) * 1000 + (fgP T n (p + 2)).2.1 := by unfold tsC; rw [el, es, show 60 + s - 60 = s by omega]
      show ((if (fgP T n (p + 2)).2.2 = 0 then (0 : Int32) else 1) ≠ 0 → _) ∧ ((if (fgP T n (p + 2)).2.2 = 0 then (0 : Int32) else 1) = 0 → _)
      by_cases c3 : (fgP T n (p + 2)).2.2 = 0
      · rw [if_pos c3] at k ⊢
        refine ⟨fun q => absurd rfl q, fun _ => k σ3 ?_⟩
        have := h3.1
        rw [hok.1, c3] at this
        exact this
      · rw [if_neg c3] at k ⊢
        refine ⟨fun _ => ?_, fun q => absurd q (by decide)⟩
        rw [rR hr h95 h3.1, e3]
        have e5 : ((nI i * 3) + nI s) * 1000 + nI (fgP T n (p + 2)).2.1 = nI (tsC T n p) := by rw [et]; simp only [lI, pk_mul, nI_add]
        refine ⟨hr, B_X4_test _ _ _ ?_⟩
        rw [e5]
        exact x_add hr h3 hC100 k
    · rw [if_pos ((si_all _).2 hj2)] at k
      exact k σ1 h1.1
  · rw [if_pos ((lt_all _).2 hj)] at k
    exact k σ h.1
theorem kPQ_mono {F F' : Nat → Prop} {K K' : Nat × List Int32 × hVl → Prop} {res : hPR} (h : kPQ F K res) (hF : ∀ q, F q → F' q) (hK : ∀ a, res = .inr a → K a → K' a) : kPQ F' K' res := by
  cases res with
  | inl q => exact hF q h
  | inr a => exact hK a rfl h
end PS
