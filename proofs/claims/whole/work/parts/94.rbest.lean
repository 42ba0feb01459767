-- THE REFERENCE: the lost, the ways, all hands
def ldB (G : Nat → Nat → Nat) (S a : Nat) : Nat → Bool
  | 0 => decide (0 < G a a)
  | j + 1 => ldB G S a j || (decide (0 < G a j) && S.testBit j)
theorem ldB_iff {G : Nat → Nat → Nat} {S a : Nat} : ∀ {j : Nat}, ldB G S a j = true ↔ 0 < G a a ∨ ∃ b, b < j ∧ 0 < G a b ∧ S.testBit b = true := by
  intro j
  induction j with
  | zero => exact ⟨fun h => Or.inl (of_decide_eq_true h), fun h => decide_eq_true (h.elim id (fun ⟨b, hb, _⟩ => absurd hb (Nat.not_lt_zero b)))⟩
  | succ j ih =>
    show (ldB G S a j || (decide (0 < G a j) && S.testBit j)) = true ↔ _
    rw [Bool.or_eq_true, ih, Bool.and_eq_true, decide_eq_true_iff]
    constructor
    · rintro ((h | ⟨b, h1, h2⟩) | h)
      · exact Or.inl h
      · exact Or.inr ⟨b, by omega, h2⟩
      · exact Or.inr ⟨j, by omega, h⟩
    · rintro (h | ⟨b, h1, h2⟩)
      · exact Or.inl (Or.inl h)
      · by_cases c : b = j
        · subst c; exact Or.inr h2
        · exact Or.inl (Or.inr ⟨b, by omega, h2⟩)
theorem pop_or2 {S i : Nat} (hi : i < 8) (h : S.testBit i = false) : pop 8 S < pop 8 (S ||| 2 ^ i) :=
  pop_lt 8 (fun j _ hj => by rw [tb_or2, hj]; rfl) ⟨i, hi, by rw [tb_or2]; simp, h⟩
def nxQ (O y : Nat) : Nat := (O - y) &&& (4294967296 - (O - y))
def nxZ (O y : Nat) : Nat := (y + 4294967296 - O) &&& O
def nxC (O y : Nat) : Bool := Nat.blt y (nxZ O y) && (Nat.beq (nxZ O y &&& O) (nxZ O y) && (Nat.beq (nxZ O y) (y - y % nxQ O y + nxQ O y) && (Nat.beq (y % nxQ O y) (O % nxQ O y) && Nat.beq (128 % nxQ O y) 0)))
def nxR (O : Nat) : Nat → Bool
  | 0 => true
  | y + 1 => nxR O y && (bif Nat.beq (y &&& O) y then nxC O y else true)
def nxA : Nat → Bool
  | 0 => true
  | O + 1 => nxA O && nxR O O
theorem nxA_ok : nxA 256 = true := by decide +kernel
theorem nxA_t : ∀ {n O : Nat}, nxA n = true → O < n → nxR O O = true := by
  intro n
  induction n with
  | zero => intro O _ h; exact absurd h (Nat.not_lt_zero O)
  | succ n ih =>
    intro O h hO
    have h : (nxA n && nxR n n) = true := h
    rw [Bool.and_eq_true] at h
    by_cases c : O = n
    · subst c; exact h.2
    · exact ih h.1 (by omega)
theorem nxR_t {O : Nat} : ∀ {n y : Nat}, nxR O n = true → y < n → y &&& O = y → nxC O y = true := by
  intro n
  induction n with
  | zero => intro y _ h; exact absurd h (Nat.not_lt_zero y)
  | succ n ih =>
    intro y h hy hs
    have h : (nxR O n && (bif Nat.beq (n &&& O) n then nxC O n else true)) = true := h
    rw [Bool.and_eq_true] at h
    by_cases c : y = n
    · subst c
      have h2 := h.2
      rw [hs, Nat.beq_refl, cond_true] at h2
      exact h2
    · exact ih h.1 (by omega) hs
theorem p2_128 : ∀ q, q < 129 → 128 % q = 0 → q = 2 ^ 0 ∨ q = 2 ^ 1 ∨ q = 2 ^ 2 ∨ q = 2 ^ 3 ∨ q = 2 ^ 4 ∨ q = 2 ^ 5 ∨ q = 2 ^ 6 ∨ q = 2 ^ 7 := by decide
theorem nxt_ok {O y : Nat} (hO : O < 256) (hs : y &&& O = y) (hne : y ≠ O) : y < nxZ O y ∧ nxZ O y &&& O = nxZ O y ∧ ∃ p, nxZ O y = y - y % 2 ^ p + 2 ^ p ∧ y % 2 ^ p = O % 2 ^ p := by
  have hle : y ≤ O := by rw [← hs]; exact Nat.and_le_right
  have h := nxR_t (nxA_t nxA_ok hO) (show y < O by omega) hs
  unfold nxC at h
  rw [Bool.and_eq_true, Bool.and_eq_true, Bool.and_eq_true, Bool.and_eq_true, Nat.blt_eq, Nat.beq_eq, Nat.beq_eq, Nat.beq_eq, Nat.beq_eq] at h
  obtain ⟨h1, h2, h3, h4, h5⟩ := h
  have hq : nxQ O y < 129 := by
    apply Nat.lt_of_not_le
    intro c
    rw [Nat.mod_eq_of_lt (by omega)] at h5
    exact absurd h5 (by decide)
  refine ⟨h1, h2, ?_⟩
  rcases p2_128 _ hq h5 with c | c | c | c | c | c | c | c
  · exact ⟨0, by rw [← c]; exact ⟨h3, h4⟩⟩
  · exact ⟨1, by rw [← c]; exact ⟨h3, h4⟩⟩
  · exact ⟨2, by rw [← c]; exact ⟨h3, h4⟩⟩
  · exact ⟨3, by rw [← c]; exact ⟨h3, h4⟩⟩
  · exact ⟨4, by rw [← c]; exact ⟨h3, h4⟩⟩
  · exact ⟨5, by rw [← c]; exact ⟨h3, h4⟩⟩
  · exact ⟨6, by rw [← c]; exact ⟨h3, h4⟩⟩
  · exact ⟨7, by rw [← c]; exact ⟨h3, h4⟩⟩
theorem nxt_gap {O y t z p : Nat} (hz : z = y - y % 2 ^ p + 2 ^ p) (hp : y % 2 ^ p = O % 2 ^ p) (h1 : y < t) (h2 : t &&& O = t) : z ≤ t := by
  have q0 : 0 < 2 ^ p := Nat.two_pow_pos p
  have e1 : t % 2 ^ p ≤ O % 2 ^ p := by
    rw [← h2, Nat.and_mod_two_pow]; exact Nat.and_le_right
  have d1 := Nat.div_add_mod y (2 ^ p)
  have d2 := Nat.div_add_mod t (2 ^ p)
  have lt : y / 2 ^ p < t / 2 ^ p := by
    apply Nat.lt_of_not_le
    intro c
    have := Nat.mul_le_mul_left (2 ^ p) c
    omega
  have := Nat.mul_le_mul_left (2 ^ p) (Nat.succ_le_of_lt lt)
  rw [Nat.succ_eq_add_one, Nat.mul_add, Nat.mul_one] at this
  omega
theorem nxt_I {O y : Nat} (hO : O < 2 ^ 32) : (nI y - nI O) &&& nI O = nI (nxZ O y) := by
  have e : nI y = nI (y + 4294967296 - O) + nI O := by
    rw [nI_add, show y + 4294967296 - O + O = y + 4294967296 by omega, ← nI_add, show nI 4294967296 = 0 by decide, Int32.add_zero]
  rw [e, Int32.add_sub_cancel, tI_and]; rfl
/-- nothing counts between -/
theorem bst_gap {P : hPF} {h : hEH} {y z : Nat} (hg : ∀ t, y ≤ t → t < z → okY P h t = false) (hyz : y ≤ z) : bstY P h z = bstY P h y ∧ cntY P h z = cntY P h y := by
  obtain ⟨d, rfl⟩ := Nat.exists_eq_add_of_le hyz
  clear hyz
  induction d with
  | zero => exact ⟨rfl, rfl⟩
  | succ d ih =>
    obtain ⟨i1, i2⟩ := ih (fun t h1 h2 => hg t h1 (by omega))
    have q := hg (y + d) (by omega) (by omega)
    refine ⟨(bstY_f q).trans i1, ?_⟩
    show cntY P h (y + d) + (if okY P h (y + d) = true then 1 else 0) = _
    rw [q, i2]; rfl
section LN
variable {l : Launch} {e : hv_Ev} {σ : hv_S} {D : hD} {hb : hB} {It : hT}
theorem y_lost56 {Φ : Int32 → hv_S → Prop} {n S i : Nat} {G : Nat → Nat → Nat} {x2 : Int32} (h60 : σ.1 60 0 = nI n) (hn : n ≤ 8) (hg : gM σ n G) (hG : ∀ a b, a < n → b < n → G a b < 2 ^ 31) (hS : S < 2 ^ n) (hi : i < n)
    (k1 : ldB G S i n = true → L_X10_lostNow_12 l e Φ (nI (S ||| 2 ^ i)) 1 (nI (i + 1)) σ) (k0 : ldB G S i n = false → L_X10_lostNow_12 l e Φ (nI S) x2 (nI (i + 1)) σ) : ∀ d j, j + d = n → L_X10_lostNow_56 l e Φ (nI S) x2 (nI i) (bI (ldB G S i j)) (nI j) σ := by
  have p8 : 2 ^ n ≤ 2 ^ 8 := Nat.pow_le_pow_right (by decide) hn
  intro d
  induction d with
  | zero =>
    intro j hj
    have hjn : j = n := by omega
    subst hjn
    refine B_X10_lostNow_56 _ _ _ _ _ ⟨fun _ => ?_, fun q => absurd (by rw [h60]; exact nI_le (Nat.le_refl _) (by omega)) q⟩
    rw [one_shl (by omega), tI_or, nI_1, ne_eq, bI_0]
    refine ⟨fun q => k1 ?_, fun q => k0 q⟩
    cases c : ldB G S i j with
    | true => rfl
    | false => exact absurd c q
  | succ d ih =>
    intro j hj
    refine B_X10_lostNow_56 _ _ _ _ _ ⟨fun q => absurd q (by rw [h60]; exact nI_ge (by omega) (by omega)), fun _ => ?_⟩
    have hx := ih (j + 1) (by omega)
    have e1 : ldB G S i (j + 1) = (ldB G S i j || (decide (0 < G i j) && S.testBit j)) := rfl
    rw [nI_1, ne_eq, bI_0, cellM, nI_clamp (by omega), hg i j hi (by omega)]
    refine ⟨fun q => ?_, fun q => ⟨vp_in_nI (by omega) (by decide), fun q2 => ?_, fun q2 => y_has (by omega) (by omega) ?_⟩⟩
    · have q1 : ldB G S i j = true := by
        cases c : ldB G S i j with
        | true => rfl
        | false => exact absurd c q
      rw [e1, q1, Bool.true_or] at hx
      exact hx
    · have q3 : G i j ≤ 0 := (nI_leI (b := 0) (hG i j hi (by omega)) (by decide)).mp q2
      rw [e1, q, decide_eq_false (by omega), Bool.false_and, Bool.or_false] at hx
      exact hx
    · have q3 : ¬ G i j ≤ 0 := fun c => q2 ((nI_leI (b := 0) (hG i j hi (by omega)) (by decide)).mpr c)
      rw [e1, q, decide_eq_true (by omega), Bool.true_and, Bool.false_or] at hx
      rw [bI_0]
      refine ⟨fun q4 => ?_, fun q4 => ?_⟩
      · rw [q4] at hx; exact hx
      · simp at q4
        rw [q4] at hx; exact hx
theorem y_lostNow {Φ : Int32 → hv_S → Prop} {n : Nat} {G : Nat → Nat → Nat} (h60 : σ.1 60 0 = nI n) (hn : n ≤ 8) (hg : gM σ n G) (hG : ∀ a b, a < n → b < n → G a b < 2 ^ 31) (k : Φ (nI (msk (fun a => !hrd n G a) n)) σ) : hv_CI l (hv_e2 e) 1 m_X10_lostNow [.ref 60] σ Φ := by
  have p8 : 2 ^ n ≤ 2 ^ 8 := Nat.pow_le_pow_right (by decide) hn
  refine B_X10_lostNow ?_
  have sweep : ∀ S0, (∀ S', S' < 2 ^ n → (∀ a, a < n → S'.testBit a = true → Rch n G a) → pop 8 S0 < pop 8 S' → L_X10_lostNow_4 l e Φ (nI S') 1 σ) → ∀ c i S (mo : Int32), i + c = n → S < 2 ^ n → (∀ a, a < n → S.testBit a = true → Rch n G a) → (mo = 0 ∧ S = S0 ∧ (∀ a, a < i → S0.testBit a = false → ldB G S0 a n = false) ∨ mo = 1 ∧ pop 8 S0 < pop 8 S) → L_X10_lostNow_12 l e Φ (nI S) mo (nI i) σ := by
    intro S0 hk c
    induction c with
    | zero =>
      intro i S mo hi hS hr hmo
      have hin : i = n := by omega
      subst hin
      refine B_X10_lostNow_12 _ _ _ ⟨fun _ => ?_, fun q => absurd (by rw [h60]; exact nI_le (Nat.le_refl _) (by omega)) q⟩
      rcases hmo with ⟨rfl, rfl, hcl⟩ | ⟨rfl, hlt⟩
      · refine B_X10_lostNow_4 _ _ ⟨fun _ => ?_, fun q => absurd rfl q⟩
        have e1 : ((1 : Int32) <<< ((σ.1 60 0) &&& 31)) - 1 = nI (2 ^ i - 1) := by rw [h60, one_shl (by omega), show (1 : Int32) = nI 1 from rfl, pk_sub (Nat.two_pow_pos _)]
        rw [e1, mns_I]
        have hS' : ∀ a, a < i → (S.testBit a = true ↔ Rch i G a) := fun a ha => by
          refine ⟨hr a ha, fun h => ?_⟩
          refine Rch_in (fun a => S.testBit a = true) (fun a ha h0 => ?_) (fun a b ha hb' h0 hs => ?_) a ha h
          · show S.testBit a = true
            cases c : S.testBit a with
            | true => rfl
            | false => exact absurd (ldB_iff.mpr (Or.inl h0)) (by rw [hcl a ha c]; decide)
          · show S.testBit a = true
            cases c : S.testBit a with
            | true => rfl
            | false => exact absurd (ldB_iff.mpr (Or.inr ⟨b, hb', h0, hs⟩)) (by rw [hcl a ha c]; decide)
        rw [show mns (2 ^ i - 1) S = msk (fun a => !hrd i G a) i from tb_ext (n := i) (mns_lt (by have := Nat.two_pow_pos i; omega) _) (msk_lt _ _) (fun a ha => by
          rw [mns_b (by omega), tb_full, msk_bit]
          have e2 : S.testBit a = hrd i G a := by
            unfold hrd
            cases c : S.testBit a with
            | true => exact (bo_t.mpr ((hS' a ha).mp c)).symm
            | false => exact (bo_f.mpr (fun z => by rw [(hS' a ha).mpr z] at c; exact absurd c (by decide))).symm
          rw [e2])]
        exact k
      · exact hk S hS hr hlt
    | succ c ih =>
      intro i S mo hi hS hr hmo
      refine B_X10_lostNow_12 _ _ _ ⟨fun q => absurd q (by rw [h60]; exact nI_ge (by omega) (by omega)), fun _ => y_has (by omega) (by omega) ?_⟩
      rw [bI_0, nI_1]
      refine ⟨fun q => ?_, fun q => ?_⟩
      · have h56 := y_lost56 (l := l) (e := e) (Φ := Φ) (x2 := mo) h60 hn hg hG hS (show i < n by omega) (fun q2 => ?_) (fun q2 => ?_) n 0 (by omega)
        · rw [cellM, nI_clamp (by omega), hg i i (by omega) (by omega)]
          have e0 : ldB G S i 0 = decide (0 < G i i) := rfl
          refine ⟨vp_in_nI (by omega) (by decide), fun q2 => ?_, fun q2 => ?_⟩
          · have q3 : G i i ≤ 0 := (nI_leI (b := 0) (hG i i (by omega) (by omega)) (by decide)).mp q2
            rw [e0, decide_eq_false (by omega)] at h56; exact h56
          · have q3 : ¬ G i i ≤ 0 := fun c => q2 ((nI_leI (b := 0) (hG i i (by omega) (by omega)) (by decide)).mpr c)
            rw [e0, decide_eq_true (by omega)] at h56; exact h56
        · refine ih (i + 1) (S ||| 2 ^ i) 1 (by omega) (lt_or2 hS (by omega)) (fun a ha h => ?_) (Or.inr ⟨rfl, ?_⟩)
          · rw [tb_or2] at h
            by_cases c : i = a
            · subst c
              rcases ldB_iff.mp q2 with h0 | ⟨b, h1, h2, h3⟩
              · exact ⟨0, h0⟩
              · exact Rch_step h1 h2 (hr b h1 h3)
            · exact hr a ha (by simpa [c] using h)
          · have := pop_or2 (S := S) (i := i) (by omega) q
            rcases hmo with ⟨-, rfl, -⟩ | ⟨-, hlt⟩
            · exact this
            · omega
        · refine ih (i + 1) S mo (by omega) hS hr ?_
          rcases hmo with ⟨h1, h2, h3⟩ | h
          · refine Or.inl ⟨h1, h2, fun a ha hc => ?_⟩
            by_cases c : a = i
            · subst c; rw [← h2]; exact q2
            · exact h3 a (by omega) hc
          · exact Or.inr h
      · refine ih (i + 1) S mo (by omega) hS hr ?_
        rcases hmo with ⟨h1, h2, h3⟩ | h
        · refine Or.inl ⟨h1, h2, fun a ha hc => ?_⟩
          by_cases c : a = i
          · subst c; rw [h2] at q; exact absurd hc q
          · exact h3 a (by omega) hc
        · exact Or.inr h
  suffices ∀ d S, 8 ≤ pop 8 S + d → S < 2 ^ n → (∀ a, a < n → S.testBit a = true → Rch n G a) → L_X10_lostNow_4 l e Φ (nI S) 1 σ by
    exact this 8 0 (by omega) (Nat.two_pow_pos n) (fun a _ h => absurd h (by simp))
  intro d
  induction d with
  | zero =>
    intro S hp hS hr
    refine B_X10_lostNow_4 _ _ ⟨fun q => absurd q (by decide), fun _ => sweep S (fun S' _ _ hlt => ?_) n 0 S 0 (by omega) hS hr (Or.inl ⟨rfl, rfl, fun a ha => absurd ha (Nat.not_lt_zero a)⟩)⟩
    have := pop_le S' 8
    omega
  | succ d ih =>
    intro S hp hS hr
    exact B_X10_lostNow_4 _ _ ⟨fun q => absurd q (by decide), fun _ => sweep S (fun S' h1 h2 hlt => ih S' (by omega) h1 h2) n 0 S 0 (by omega) hS hr (Or.inl ⟨rfl, rfl, fun a ha => absurd ha (Nat.not_lt_zero a)⟩)⟩
theorem msk_lost0 {n : Nat} {G : Nat → Nat → Nat} : msk (fun a => !hrd n G a) n = 0 ↔ allR n G := by
  constructor
  · intro h a ha
    have := msk_bit (fun a => !hrd n G a) n a
    rw [h] at this
    simp [ha] at this
    exact bo_t.mp this
  · intro h
    refine tb_ext (n := n) (msk_lt _ _) (Nat.two_pow_pos n) (fun i hi => ?_)
    rw [msk_bit, show hrd n G i = true from bo_t.mpr (h i hi)]; simp
/-- hands that aren't orders lie ready -/
def gN (D : hD) (hb : hB) (m w : Nat) (σ : hv_S) : Prop := ∃ g, gM σ (D 0 0) g ∧ ∀ a b, a < D 0 0 → b < D 0 0 → isO (ehD D m w) a = false → g a b = G0 (pfD D hb m) (ehD D m w) a b
theorem gN_W {D : hD} {hb : hB} {m w y : Nat} {σ : hv_S} (h : gM σ (D 0 0) (GW (pfD D hb m) (ehD D m w) y)) : gN D hb m w σ := ⟨_, h, fun a b _ _ q => by unfold GW; rw [q]; rfl⟩
theorem gN_0 {D : hD} {hb : hB} {m w : Nat} {σ : hv_S} (h : gM σ (D 0 0) (G0 (pfD D hb m) (ehD D m w))) : gN D hb m w σ := ⟨_, h, fun _ _ _ _ _ => rfl⟩
theorem gN.of {D : hD} {hb : hB} {m w : Nat} {σ σ' : hv_S} (h : gN D hb m w σ) (e : ∀ j, σ'.1 74 j = σ.1 74 j) : gN D hb m w σ' := by
  obtain ⟨g, h1, h2⟩ := h
  exact ⟨g, h1.of e, h2⟩
theorem y_row74 {Φ : Int32 → hv_S → Prop} {y m i t : Nat} {g : Nat → Nat → Nat} (hR : RM D hb It σ) (hW : hWF D) (hi : i < D 0 0) (ht : t < D 0 0) (hg : gM σ (D 0 0) g) (k : ∀ σ', SB σ σ' → RM D hb It σ' → gM σ' (D 0 0) (grow g i (pt t 10)) → L_X10_putOrders_2 l e Φ (nI y) (nI m) (nI (i + 1)) σ') :
    L_X10_putOrders_74 l e Φ (nI y) (nI m) (nI i) (nI t) 0 σ := by
  have hn := hW.1
  suffices ∀ d j σ', j + d = D 0 0 → SB σ σ' → RM D hb It σ' → gM σ' (D 0 0) (fun a b => if a = i ∧ b < j then pt t 10 b else g a b) → L_X10_putOrders_74 l e Φ (nI y) (nI m) (nI i) (nI t) (nI j) σ' by
    exact this (D 0 0) 0 σ (by omega) (SB.refl σ) hR (hg.congr (fun a b _ _ => (if_neg (fun z => Nat.not_lt_zero b z.2)).symm))
  intro d
  induction d with
  | zero =>
    intro j σ' hj hS hR' hg'
    have hjn : j = D 0 0 := by omega
    subst hjn
    refine B_X10_putOrders_74 _ _ _ _ _ ⟨fun _ => ?_, fun q => absurd (by rw [hR'.1.1]; exact nI_le (Nat.le_refl _) (by omega)) q⟩
    rw [nI_1]
    refine k σ' hS hR' (hg'.congr (fun a b _ hb' => ?_))
    unfold grow
    by_cases c : a = i
    · rw [if_pos c]; exact if_pos ⟨c, hb'⟩
    · rw [if_neg c]; exact if_neg (fun z => c z.1)
  | succ d ih =>
    intro j σ' hj hS hR' hg'
    have hv : vp_in (nI (8 * i + j)) 64 := vp_in_nI (by omega) (by decide)
    refine B_X10_putOrders_74 _ _ _ _ _ ⟨fun q => absurd q (by rw [hR'.1.1]; exact nI_ge (by omega) (by omega)), fun _ => ?_⟩
    rw [cellM, nI_clamp (by omega), nI_1, ne_eq, nI_eq (by omega) (by omega)]
    have nx : ∀ v : Int32, v = nI (pt t 10 j) → L_X10_putOrders_74 l e Φ (nI y) (nI m) (nI i) (nI t) (nI (j + 1)) (hv_ui σ' 74 (8 * i + j) v) := fun v hvv => by
      refine ih (j + 1) _ (by omega) (hS.trans SB.u) (hR'.ui (Or.inl (by decide))) (fun a b ha hb' => ?_)
      rw [ui_1]
      show _ = nI (if a = i ∧ b < j + 1 then pt t 10 b else g a b)
      by_cases c : a = i ∧ b = j
      · obtain ⟨rfl, rfl⟩ := c
        rw [if_pos ⟨rfl, rfl⟩, if_pos ⟨rfl, by omega⟩]; exact hvv
      · rw [if_neg (fun z => c (by omega)), hg' a b ha hb']
        show nI (if a = i ∧ b < j then pt t 10 b else g a b) = _
        by_cases c2 : a = i ∧ b < j
        · rw [if_pos c2, if_pos ⟨c2.1, by omega⟩]
        · rw [if_neg c2, if_neg (fun z => by omega)]
    refine ⟨fun q => ⟨hv, nx 0 ?_⟩, fun q => ⟨hv, nx 10 ?_⟩⟩
    · unfold pt; rw [if_neg q]; rfl
    · unfold pt; rw [if_pos q]; rfl
theorem y_putOrders {Φ : Int32 → hv_S → Prop} {y m w : Nat} (hR : RM D hb It σ) (hW : hWF D) (hm : m < 3) (hw : w ≤ 100) (h35 : σ.1 60 35 = nI w) (hy : y < 2 ^ 31) (hg : gN D hb m w σ)
    (k0 : ¬ (∀ a, a < D 0 0 → isO (ehD D m w) a = true → bar D hb m a (nmY (ehD D m w) y a) = false) → ∀ σ', SB σ σ' → RM D hb It σ' → gN D hb m w σ' → Φ 0 σ')
    (k1 : (∀ a, a < D 0 0 → isO (ehD D m w) a = true → bar D hb m a (nmY (ehD D m w) y a) = false) → ∀ σ', SB σ σ' → RM D hb It σ' → gM σ' (D 0 0) (GW (pfD D hb m) (ehD D m w) y) → Φ 1 σ') : hv_CI l (hv_e2 e) 8 m_X10_putOrders [.ref 60, .int (nI y), .int (nI m)] σ Φ := by
  have hn := hW.1
  have hO : ehO D m (ehD D m w) := by
    have h0 := hL_O (w := w) (S := 0) (gt := none) hW hm
    have hL0 : hL D m w 0 none = ehD D m w := ehS0 _
    rw [hL0] at h0; exact h0
  refine B_X10_putOrders _ _ ?_
  suffices ∀ d i σ' g, i + d = D 0 0 → SB σ σ' → RM D hb It σ' → gM σ' (D 0 0) g → (∀ a b, a < D 0 0 → b < D 0 0 → isO (ehD D m w) a = false → g a b = G0 (pfD D hb m) (ehD D m w) a b) → (∀ a, a < i → isO (ehD D m w) a = true → bar D hb m a (nmY (ehD D m w) y a) = false ∧ ∀ b, g a b = pt (nmY (ehD D m w) y a) 10 b) → L_X10_putOrders_2 l e Φ (nI y) (nI m) (nI i) σ' by
    obtain ⟨g, g1, g2⟩ := hg
    exact this (D 0 0) 0 σ g (by omega) (SB.refl σ) hR g1 g2 (fun a ha => absurd ha (Nat.not_lt_zero a))
  intro d
  induction d with
  | zero =>
    intro i σ' g hi hS hR' hg' hN hY
    have hin : i = D 0 0 := by omega
    subst hin
    refine B_X10_putOrders_2 _ _ _ ⟨fun _ => k1 (fun a ha ho => (hY a ha ho).1) σ' hS hR' (hg'.congr (fun a b ha hb' => ?_)), fun q => absurd (by rw [hR'.1.1]; exact nI_le (Nat.le_refl _) (by omega)) q⟩
    unfold GW
    cases c : isO (ehD D m w) a with
    | true => rw [(hY a ha c).2]; rfl
    | false => rw [hN a b ha hb' c]; rfl
  | succ d ih =>
    intro i σ' g hi hS hR' hg' hN hY
    have hi' : i < D 0 0 := by omega
    refine B_X10_putOrders_2 _ _ _ ⟨fun q => absurd q (by rw [hR'.1.1]; exact nI_ge (by omega) (by omega)), fun _ => y_isOrder hR' hW hm hi' hw (by rw [hS.2.2 35 (by decide)]; exact h35) ?_⟩
    cases c : isO (ehD D m w) i with
    | false =>
      refine ⟨fun q => absurd rfl q, fun _ => ?_⟩
      rw [nI_1]
      refine ih (i + 1) σ' g (by omega) hS hR' hg' hN (fun a ha ho => hY a ?_ ho)
      by_cases q : a = i
      · subst q; rw [c] at ho; exact absurd ho (by decide)
      · omega
    | true =>
      obtain ⟨o1, o2, o3, o4, o5, o6⟩ := hO i hi' c
      obtain ⟨g6, g1, g2, g3, g4, g5⟩ := hR'.1.2.2.2.2 m i hm hi'
      have e63 : σ'.1 63 (8 * m + i) = nI (ehD D m w i).2.1 := by rw [g3, nmM_lt (by omega), o1]
      have e64 : σ'.1 64 (8 * m + i) = nI (ehD D m w i).2.2.1 := by rw [g4, nmM_lt (by omega), o2]
      have hv : vp_in (nI (8 * m + i)) 24 := vp_in_nI (by omega) (by decide)
      -- a name
      have nm : ∀ t, t = nmY (ehD D m w) y i → t < D 0 0 → hv_CI l (hv_e2 e) 7 m_X10_isBar [.ref 60, .int (nI i), .int (nI t), .int (nI m)] σ' (fun v8 s7 => ((v8 = 0 → L_X10_putOrders_74 l e Φ (nI y) (nI m) (nI i) (nI t) 0 s7) ∧ (¬ v8 = 0 → Φ 0 s7))) := fun t htn ht => by
        refine y_isBar hR' hW hm hi' ht (fun σ2 hE hR2 => ?_)
        have hg2 : gM σ2 (D 0 0) g := hg'.of (fun j => hE.2.1 74 (by decide) j)
        rw [bI_0]
        refine ⟨fun q => y_row74 hR2 hW hi' ht hg2 (fun σ3 hS3 hR3 hg3 => ih (i + 1) σ3 _ (by omega) ((hS.trans hE.sb).trans hS3) hR3 hg3 (fun a b ha hb' ho => ?_) (fun a ha ho => ?_)), fun q => k0 (fun z => q ?_) σ2 (hS.trans hE.sb) hR2 ⟨g, hg2, hN⟩⟩
        · unfold grow
          rw [if_neg (fun z => by rw [z, c] at ho; exact absurd ho (by decide))]
          exact hN a b ha hb' ho
        · unfold grow
          by_cases q2 : a = i
          · subst q2
            rw [← htn]
            exact ⟨q, fun b => if_pos rfl⟩
          · obtain ⟨y1, y2⟩ := hY a (by omega) ho
            exact ⟨y1, fun b => (if_neg q2).trans (y2 b)⟩
        · rw [htn]; exact z i hi' c
      refine ⟨fun _ => y_has hy (by omega) ?_, fun q => absurd q (by decide)⟩
      rw [cellM, nI_clamp (by omega), e63, e64, bI_0]
      refine ⟨fun q => ⟨hv, nm _ ?_ o3⟩, fun q => ⟨hv, nm _ ?_ o4⟩⟩
      · unfold nmY; rw [q]; rfl
      · unfold nmY
        rw [show y.testBit i = true by
          cases z : y.testBit i with
          | true => rfl
          | false => exact absurd z q]
        rfl
end LN
