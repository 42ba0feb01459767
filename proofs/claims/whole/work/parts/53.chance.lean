-- CHANCES: every way to think of those with voices
def sbS (V : Nat) : Nat → (Nat → Int) → Int
  | 0, f => f 0
  | i + 1, f => if V.testBit i = true then sbS V i f + sbS V i (fun x => f (2 ^ i + x)) else sbS V i f
def prd (s : Nat → Nat) (V x : Nat) : Nat → Int
  | 0 => 1
  | j + 1 => if V.testBit j = true then prd s V x j * ((if x.testBit j = true then s j else 10 - s j : Nat) : Int) else prd s V x j
/-- the chance of YES, in parts of ten to the power of those with voices -/
def chn (D : hD) (m : Nat) (v : Nat → Int) : Int := sbS (msk (fun a => decide (0 < v a)) (D 0 0)) (D 0 0) (fun x => if dcd D v x = true then prd (fun a => D 6 (8 * m + a)) (msk (fun a => decide (0 < v a)) (D 0 0)) x (D 0 0) else 0)
/-- the way at place k -/
def xp (V : Nat) : Nat → Nat → Nat
  | 0, _ => 0
  | i + 1, k => if V.testBit i = true then (if k < 2 ^ pop i V then xp V i k else 2 ^ i + xp V i (k - 2 ^ pop i V)) else xp V i k
theorem xp_lt (V : Nat) : ∀ i k, xp V i k < 2 ^ i := by
  intro i
  induction i with
  | zero => intro k; exact Nat.one_pos
  | succ i ih =>
    intro k
    unfold xp
    have e : 2 ^ (i + 1) = 2 ^ i + 2 ^ i := by rw [Nat.pow_succ]; omega
    have h1 := ih k
    have h2 := ih (k - 2 ^ pop i V)
    split
    · split <;> omega
    · omega
theorem sumI_app (f : Nat → Int) (a : Nat) : ∀ b, sumI f (a + b) = sumI f a + sumI (fun j => f (a + j)) b := by
  intro b
  induction b with
  | zero => show sumI f a = sumI f a + 0; omega
  | succ b ih =>
    show sumI f (a + b) + f (a + b) = sumI f a + (sumI (fun j => f (a + j)) b + f (a + b))
    rw [ih]; omega
theorem xp_sum (V : Nat) : ∀ i (h : Nat → Int), sumI (fun k => h (xp V i k)) (2 ^ pop i V) = sbS V i h := by
  intro i
  induction i with
  | zero => intro h; show 0 + h 0 = h 0; omega
  | succ i ih =>
    intro h
    by_cases c : V.testBit i = true
    · have e1 : pop (i + 1) V = pop i V + 1 := by rw [pop_s, if_pos c]
      have e2 : 2 ^ pop (i + 1) V = 2 ^ pop i V + 2 ^ pop i V := by rw [e1, Nat.pow_succ]; omega
      rw [e2, sumI_app]
      show _ = if V.testBit i = true then sbS V i h + sbS V i (fun x => h (2 ^ i + x)) else sbS V i h
      rw [if_pos c, ← ih h, ← ih (fun x => h (2 ^ i + x))]
      congr 1
      · refine sumI_congr (fun j hj => ?_)
        show h (if V.testBit i = true then (if j < 2 ^ pop i V then xp V i j else 2 ^ i + xp V i (j - 2 ^ pop i V)) else xp V i j) = _
        rw [if_pos c, if_pos hj]
      · refine sumI_congr (fun j hj => ?_)
        show h (if V.testBit i = true then (if 2 ^ pop i V + j < 2 ^ pop i V then xp V i (2 ^ pop i V + j) else 2 ^ i + xp V i (2 ^ pop i V + j - 2 ^ pop i V)) else xp V i (2 ^ pop i V + j)) = _
        rw [if_pos c, if_neg (by omega), Nat.add_sub_cancel_left]
    · have e1 : pop (i + 1) V = pop i V := by rw [pop_s, if_neg c]; rfl
      rw [e1]
      show _ = if V.testBit i = true then sbS V i h + sbS V i (fun x => h (2 ^ i + x)) else sbS V i h
      rw [if_neg c, ← ih h]
      refine sumI_congr (fun j hj => ?_)
      show h (if V.testBit i = true then (if j < 2 ^ pop i V then xp V i j else 2 ^ i + xp V i (j - 2 ^ pop i V)) else xp V i j) = _
      rw [if_neg c]
theorem prd_congr {s : Nat → Nat} {V x y : Nat} : ∀ {i : Nat}, (∀ j, j < i → x.testBit j = y.testBit j) → prd s V x i = prd s V y i := by
  intro i
  induction i with
  | zero => intro _; rfl
  | succ i ih =>
    intro h
    unfold prd
    rw [ih (fun j hj => h j (by omega)), h i (by omega)]
/-- sums of the voices that think so -/
def ysm (v : Nat → Int) (x n : Nat) : Int := sumI (fun a => if x.testBit a = true then v a else 0) n
theorem ysm_congr {v : Nat → Int} {x y : Nat} {i : Nat} (h : ∀ j, j < i → x.testBit j = y.testBit j) : ysm v x i = ysm v y i := sumI_congr (fun j hj => by rw [h j hj])
section CH
variable {l : Launch} {e : hv_Ev} {σ : hv_S} {D : hD} {hb : hB} {It : hT} {m : Nat} {n : Nat} {v : Nat → Int} {W : Int}
def odI (σ : hv_S) (z : Nat) (A B : Nat → Int) : Prop := ∀ j, j < z → σ.2.1 33 j = lZ (A j) ∧ σ.2.1 34 j = lZ (B j)
theorem x_fork {Φ : hv_S → Prop} {z q : Nat} {A B : Nat → Int} {w : Int} (hz : z + z ≤ 256) (hq : q ≤ 10) (hA : odI σ z A B)
    (k : ∀ σ', TE σ σ' → σ'.1 = σ.1 → (∀ p j, p ≠ 33 → p ≠ 34 → σ'.2.1 p j = σ.2.1 p j) → (∀ j, j < z → σ'.2.1 33 j = lZ (A j * ((10 - q : Nat) : Int)) ∧ σ'.2.1 34 j = lZ (B j) ∧ σ'.2.1 33 (z + j) = lZ (A j * (q : Int)) ∧ σ'.2.1 34 (z + j) = lZ (B j + w)) → Φ σ') :
    hv_CV l (hv_e1 e) 0 m_X6_fork [.ref 21, .int (nI z), .long (lZ w), .int (nI q)] σ Φ := by
  refine B_X6_fork _ _ _ ?_
  have e10 : (10 : Int32) - nI q = nI (10 - q) := by rw [show (10 : Int32) = nI 10 from rfl, pk_sub hq]
  suffices ∀ d i σ', i + d = z → TE σ σ' → σ'.1 = σ.1 → (∀ p j, p ≠ 33 → p ≠ 34 → σ'.2.1 p j = σ.2.1 p j) → (∀ j, j < z → (j < i → σ'.2.1 33 j = lZ (A j * ((10 - q : Nat) : Int))) ∧ (i ≤ j → σ'.2.1 33 j = lZ (A j)) ∧ σ'.2.1 34 j = lZ (B j) ∧ (j < i → σ'.2.1 33 (z + j) = lZ (A j * (q : Int)) ∧ σ'.2.1 34 (z + j) = lZ (B j + w))) → L_X6_fork_3 l e Φ (nI z) (lZ w) (nI q) (nI i) σ' by
    exact this z 0 σ (by omega) (TE.refl σ) rfl (fun _ _ _ _ => rfl) (fun j hj => ⟨fun c => by omega, fun _ => (hA j hj).1, (hA j hj).2, fun c => by omega⟩)
  intro d
  induction d with
  | zero =>
    intro i σ' hi hT h1 hp hj
    exact B_X6_fork_3 _ _ _ _ ⟨fun _ => k σ' hT h1 hp (fun j hj' => ⟨(hj j hj').1 (by omega), (hj j hj').2.2.1, ((hj j hj').2.2.2 (by omega)).1, ((hj j hj').2.2.2 (by omega)).2⟩), fun q2 => absurd (nI_le (by omega) (by omega)) q2⟩
  | succ d ih =>
    intro i σ' hi hT h1 hp hj
    have hi2 : i < z := by omega
    obtain ⟨g1, g2, g3, g4⟩ := hj i hi2
    have hv1 : vp_in (nI i) 256 := vp_in_nI (by omega) (by decide)
    have hv2 : vp_in (nI (z + i)) 256 := vp_in_nI (by omega) (by decide)
    refine B_X6_fork_3 _ _ _ _ ⟨fun q2 => absurd q2 (nI_ge (by omega) (by omega)), fun _ => ?_⟩
    rw [nI_add]
    refine ⟨fun q2 => absurd q2 (by rw [show (256 : Int32) = nI 256 from rfl]; exact nI_ge (by omega) (by omega)), fun _ => ⟨hv1, hv2, hv1, hv2, hv1, hv1, ?_⟩⟩
    rw [nI_clamp (by omega), nI_clamp (by omega), e10, nI_1, ul_1, if_neg (fun c => by omega), g2 (by omega), g3, nI_lZ (by omega), nI_lZ (by omega), lZ_mul, lZ_mul, lZ_add]
    refine ih (i + 1) _ (by omega) (hT.trans ((TE.ul (by decide)).trans ((TE.ul (by decide)).trans (TE.ul (by decide))))) h1 (fun p j p1 p2 => ?_) (fun j hj' => ?_)
    · rw [ul_1, if_neg (fun c => p1 c.1), ul_1, if_neg (fun c => p2 c.1), ul_1, if_neg (fun c => p1 c.1)]; exact hp p j p1 p2
    · obtain ⟨f1, f2, f3, f4⟩ := hj j hj'
      refine ⟨fun c => ?_, fun c => ?_, ?_, fun c => ⟨?_, ?_⟩⟩
      · rw [ul_1]
        by_cases c2 : j = i
        · rw [if_pos ⟨rfl, c2⟩, c2]
        · rw [if_neg (fun c3 => c2 c3.2), ul_1, if_neg (fun c3 => absurd c3.1 (by decide)), ul_1, if_neg (fun c3 => by omega)]; exact f1 (by omega)
      · rw [ul_1, if_neg (fun c3 => by omega), ul_1, if_neg (fun c3 => absurd c3.1 (by decide)), ul_1, if_neg (fun c3 => by omega)]; exact f2 (by omega)
      · rw [ul_1, if_neg (fun c3 => absurd c3.1 (by decide)), ul_1, if_neg (fun c3 => by omega), ul_1, if_neg (fun c3 => absurd c3.1 (by decide))]; exact f3
      · rw [ul_1, if_neg (fun c3 => by omega), ul_1, if_neg (fun c3 => absurd c3.1 (by decide)), ul_1]
        by_cases c2 : j = i
        · rw [if_pos ⟨rfl, by rw [c2]⟩, c2]
        · rw [if_neg (fun c3 => by omega)]; exact (f4 (by omega)).1
      · rw [ul_1, if_neg (fun c3 => absurd c3.1 (by decide)), ul_1]
        by_cases c2 : j = i
        · rw [if_pos ⟨rfl, by rw [c2]⟩, c2]
        · rw [if_neg (fun c3 => by omega), ul_1, if_neg (fun c3 => absurd c3.1 (by decide))]; exact (f4 (by omega)).2
end CH
