-- bounds of chances; the canonical voices
theorem sbS_congr {V : Nat} : ∀ {i : Nat} {f g : Nat → Int}, (∀ x, x < 2 ^ i → f x = g x) → sbS V i f = sbS V i g := by
  intro i
  induction i with
  | zero => intro f g h; exact h 0 Nat.one_pos
  | succ i ih =>
    intro f g h
    have e : 2 ^ (i + 1) = 2 ^ i + 2 ^ i := by rw [Nat.pow_succ]; omega
    show (if V.testBit i = true then sbS V i f + sbS V i (fun x => f (2 ^ i + x)) else sbS V i f) = (if V.testBit i = true then sbS V i g + sbS V i (fun x => g (2 ^ i + x)) else sbS V i g)
    rw [ih (fun x hx => h x (by omega)), ih (f := fun x => f (2 ^ i + x)) (g := fun x => g (2 ^ i + x)) (fun x hx => h (2 ^ i + x) (by omega))]
theorem sbS_le {V : Nat} : ∀ {i : Nat} {f g : Nat → Int}, (∀ x, f x ≤ g x) → sbS V i f ≤ sbS V i g := by
  intro i
  induction i with
  | zero => intro f g h; exact h 0
  | succ i ih =>
    intro f g h
    show (if V.testBit i = true then sbS V i f + sbS V i (fun x => f (2 ^ i + x)) else sbS V i f) ≤ (if V.testBit i = true then sbS V i g + sbS V i (fun x => g (2 ^ i + x)) else sbS V i g)
    have h1 := ih h
    have h2 := ih (f := fun x => f (2 ^ i + x)) (g := fun x => g (2 ^ i + x)) (fun x => h (2 ^ i + x))
    split <;> omega
theorem sbS_0 {V : Nat} : ∀ i, sbS V i (fun _ => 0) = 0 := by
  intro i
  induction i with
  | zero => rfl
  | succ i ih =>
    show (if V.testBit i = true then sbS V i (fun _ => 0) + sbS V i (fun _ => 0) else sbS V i (fun _ => 0)) = 0
    rw [ih]; split <;> rfl
theorem sbS_mulr {V : Nat} (c : Int) : ∀ i (f : Nat → Int), sbS V i (fun x => f x * c) = sbS V i f * c := by
  intro i
  induction i with
  | zero => intro f; rfl
  | succ i ih =>
    intro f
    show (if V.testBit i = true then sbS V i (fun x => f x * c) + sbS V i (fun x => f (2 ^ i + x) * c) else sbS V i (fun x => f x * c)) = (if V.testBit i = true then sbS V i f + sbS V i (fun x => f (2 ^ i + x)) else sbS V i f) * c
    rw [ih f, ih (fun x => f (2 ^ i + x))]
    split
    · rw [Int.add_mul]
    · rfl
theorem prd_nn (s : Nat → Nat) (V x : Nat) : ∀ i, 0 ≤ prd s V x i := by
  intro i
  induction i with
  | zero => show (0 : Int) ≤ 1; omega
  | succ i ih =>
    show 0 ≤ (if V.testBit i = true then prd s V x i * _ else prd s V x i)
    split
    · exact Int.mul_nonneg ih (by omega)
    · exact ih
theorem sbS_prd {s : Nat → Nat} {V : Nat} (hs : ∀ a, s a ≤ 10) : ∀ i, sbS V i (fun x => prd s V x i) = 10 ^ pop i V := by
  intro i
  induction i with
  | zero => rfl
  | succ i ih =>
    show (if V.testBit i = true then sbS V i (fun x => prd s V x (i + 1)) + sbS V i (fun x => prd s V (2 ^ i + x) (i + 1)) else sbS V i (fun x => prd s V x (i + 1))) = _
    by_cases c : V.testBit i = true
    · rw [if_pos c]
      have eP : ∀ x, prd s V x (i + 1) = prd s V x i * ((if x.testBit i = true then s i else 10 - s i : Nat) : Int) := fun x => by
        show (if V.testBit i = true then prd s V x i * _ else prd s V x i) = _
        rw [if_pos c]
      have e1 : sbS V i (fun x => prd s V x (i + 1)) = sbS V i (fun x => prd s V x i * ((10 - s i : Nat) : Int)) := sbS_congr (fun x hx => by
        rw [eP, if_neg (by rw [tb_hi hx (Nat.le_refl _)]; decide)])
      have e2 : sbS V i (fun x => prd s V (2 ^ i + x) (i + 1)) = sbS V i (fun x => prd s V x i * (s i : Int)) := sbS_congr (fun x hx => by
        have hb1 : (2 ^ i + x).testBit i = true := by rw [Nat.testBit_two_pow_add_eq, tb_hi hx (Nat.le_refl _)]; rfl
        rw [eP, if_pos hb1, prd_congr (fun a ha => Nat.testBit_two_pow_add_gt ha x)])
      rw [e1, e2, sbS_mulr, sbS_mulr, ih, ← Int.mul_add, pop_s, if_pos c, Int.pow_succ]
      have := hs i
      congr 1
      omega
    · rw [if_neg c, pop_s, if_neg c]
      show _ = 10 ^ pop i V
      rw [← ih]
      refine sbS_congr (fun x _ => ?_)
      show (if V.testBit i = true then prd s V x i * _ else prd s V x i) = _
      rw [if_neg c]
/-- those with voices -/
def vts (D : hD) (v : Nat → Int) : Nat := msk (fun a => decide (0 < v a)) (D 0 0)
theorem pop_hi {V n : Nat} (hV : V < 2 ^ n) (hn : n ≤ 8) : pop n V = pop 8 V := by
  have : ∀ d, n + d ≤ 8 → pop (n + d) V = pop n V := by
    intro d
    induction d with
    | zero => intro _; rfl
    | succ d ih =>
      intro hd
      rw [← Nat.add_assoc, pop_s, ih (by omega), if_neg (by rw [tb_hi hV (by omega)]; decide)]; rfl
  have h2 := this (8 - n) (by omega)
  rw [show n + (8 - n) = 8 by omega] at h2
  exact h2.symm
theorem chn_b {D : hD} (hW : hWF D) {m : Nat} (hm : m < 3) (v : Nat → Int) : 0 ≤ chn D m v ∧ chn D m v ≤ 10 ^ pop 8 (vts D v) := by
  obtain ⟨s, hs⟩ : ∃ s : Nat → Nat, s = fun a => if a < 8 then D 6 (8 * m + a) else 0 := ⟨_, rfl⟩
  have hn := hW.1
  have hs10 : ∀ a, s a ≤ 10 := fun a => by
    rw [hs]
    show (if a < 8 then D 6 (8 * m + a) else 0) ≤ 10
    split
    · exact (hW.2.2.2.2.2.2.2.2.2.1 (8 * m + a) (by omega)).2.2.2.1
    · omega
  have hpe : ∀ x i, i ≤ 8 → prd (fun a => D 6 (8 * m + a)) (vts D v) x i = prd s (vts D v) x i := by
    intro x i
    induction i with
    | zero => intro _; rfl
    | succ i ih =>
      intro hi
      have e : s i = D 6 (8 * m + i) := by rw [hs]; exact if_pos (by omega)
      unfold prd
      rw [ih (by omega), e]
  have hb := sbS_prd (V := vts D v) hs10 (D 0 0)
  rw [pop_hi (show vts D v < 2 ^ D 0 0 from msk_lt _ _) hn] at hb
  unfold chn
  constructor
  · have h0 : sbS (vts D v) (D 0 0) (fun _ => 0) ≤ sbS (vts D v) (D 0 0) (fun x => if dcd D v x = true then prd (fun a => D 6 (8 * m + a)) (vts D v) x (D 0 0) else 0) := sbS_le (fun x => by
      show (0 : Int) ≤ (if dcd D v x = true then _ else 0)
      split
      · exact prd_nn _ _ _ _
      · exact Int.le_refl _)
    rw [sbS_0] at h0
    exact h0
  · rw [← hb]
    exact sbS_le (fun x => by
      show (if dcd D v x = true then prd (fun a => D 6 (8 * m + a)) (vts D v) x (D 0 0) else 0) ≤ prd s (vts D v) x (D 0 0)
      rw [hpe x _ hn]
      split
      · exact Int.le_refl _
      · exact prd_nn _ _ _ _)
/-- the chance in parts of a hundred million -/
def cha (D : hD) (m : Nat) (v : Nat → Int) : Int := 10 ^ (8 - pop 8 (vts D v)) * chn D m v
theorem cha_b {D : hD} (hW : hWF D) {m : Nat} (hm : m < 3) (v : Nat → Int) : 0 ≤ cha D m v ∧ cha D m v ≤ 100000000 := by
  obtain ⟨h1, h2⟩ := chn_b hW hm v
  have hp := pop_le (vts D v) 8
  have t0 : ∀ k : Nat, k ≤ 8 → (0 : Int) ≤ 10 ^ (8 - k) ∧ (10 : Int) ^ (8 - k) * 10 ^ k = 100000000 := by decide
  obtain ⟨t1, t2⟩ := t0 _ hp
  unfold cha
  refine ⟨Int.mul_nonneg t1 h1, ?_⟩
  rw [← t2]
  exact Int.mul_le_mul_of_nonneg_left h2 t1
theorem cha_inv {D : hD} {m : Nat} {W W' : Int} {v v' : Nat → Int} (h : prp W v W' v') : cha D m v = cha D m v' := by
  unfold cha vts
  rw [vts_inv h, chn_inv h]
/-- the voices, as a choice -/
noncomputable def cnV (D : hD) (hb : hB) (m w S : Nat) (gt : Option (Nat × Nat)) : Int × (Nat → Int) := Classical.epsilon (fun p : Int × (Nat → Int) => isV (D 0 0) (GX D hb m w S gt) (D 0 3) p.1 p.2)
theorem cnV_of {D : hD} (hW : hWF D) {hb : hB} {m w S : Nat} {gt : Option (Nat × Nat)} (hm : m < 3) (hg : gtW (D 0 0) gt) {W : Int} {v : Nat → Int} (h : isV (D 0 0) (GX D hb m w S gt) (D 0 3) W v) :
    isV (D 0 0) (GX D hb m w S gt) (D 0 3) (cnV D hb m w S gt).1 (cnV D hb m w S gt).2 ∧ prp W v (cnV D hb m w S gt).1 (cnV D hb m w S gt).2 := by
  have h1 : isV (D 0 0) (GX D hb m w S gt) (D 0 3) (cnV D hb m w S gt).1 (cnV D hb m w S gt).2 := Classical.epsilon_spec (p := fun p : Int × (Nat → Int) => isV (D 0 0) (GX D hb m w S gt) (D 0 3) p.1 p.2) ⟨(W, v), h⟩
  exact ⟨h1, h.1, h1.1, fun a => isV_uniq (GX_row hW hm hg) hW.1 h h1 a⟩
