-- CHANCES: every way to think of those with voices
def sbS (V : Nat) : Nat → (Nat → Int) → Int
  | 0, f => f 0
  | i + 1, f => if V.testBit i = true then sbS V i f + sbS V i (fun x => f (2 ^ i + x)) else sbS V i f
def prd (s : Nat → Nat) (V x : Nat) : Nat → Int
  | 0 => 1
  | j + 1 => if V.testBit j = true then prd s V x j * ((if x.testBit j = true then s j else 10 - s j : Nat) : Int) else prd s V x j
/-- the chance of YES, in parts of ten to the power of those with voices -/
def chn (D : hD) (m : Nat) (v : Nat → Int) : Int := sbS (msk (fun a => decide (0 < v a)) (D 0 0)) (D 0 0) (fun x => if dcd D v x = true then prd (fun a => D 6 (8 * m + a)) (msk (fun a => decide (0 < v a)) (D 0 0)) x (D 0 0) else 0)
/-- the way at place k -/
def xp (V : Nat) : Nat → Nat → Nat
  | 0, _ => 0
  | i + 1, k => if V.testBit i = true then (if k < 2 ^ pop i V then xp V i k else 2 ^ i + xp V i (k - 2 ^ pop i V)) else xp V i k
theorem xp_lt (V : Nat) : ∀ i k, xp V i k < 2 ^ i := by
  intro i
  induction i with
  | zero => intro k; exact Nat.one_pos
  | succ i ih =>
    intro k
    unfold xp
    have e : 2 ^ (i + 1) = 2 ^ i + 2 ^ i := by rw [Nat.pow_succ]; omega
    have h1 := ih k
    have h2 := ih (k - 2 ^ pop i V)
    split
    · split <;> omega
    · omega
theorem sumI_app (f : Nat → Int) (a : Nat) : ∀ b, sumI f (a + b) = sumI f a + sumI (fun j => f (a + j)) b := by
  intro b
  induction b with
  | zero => show sumI f a = sumI f a + 0; omega
  | succ b ih =>
    show sumI f (a + b) + f (a + b) = sumI f a + (sumI (fun j => f (a + j)) b + f (a + b))
    rw [ih]; omega
theorem xp_sum (V : Nat) : ∀ i (h : Nat → Int), sumI (fun k => h (xp V i k)) (2 ^ pop i V) = sbS V i h := by
  intro i
  induction i with
  | zero => intro h; show 0 + h 0 = h 0; omega
  | succ i ih =>
    intro h
    by_cases c : V.testBit i = true
    · have e1 : pop (i + 1) V = pop i V + 1 := by rw [pop_s, if_pos c]
      have e2 : 2 ^ pop (i + 1) V = 2 ^ pop i V + 2 ^ pop i V := by rw [e1, Nat.pow_succ]; omega
      rw [e2, sumI_app]
      show _ = if V.testBit i = true then sbS V i h + sbS V i (fun x => h (2 ^ i + x)) else sbS V i h
      rw [if_pos c, ← ih h, ← ih (fun x => h (2 ^ i + x))]
      congr 1
      · refine sumI_congr (fun j hj => ?_)
        show h (if V.testBit i = true then (if j < 2 ^ pop i V then xp V i j else 2 ^ i + xp V i (j - 2 ^ pop i V)) else xp V i j) = _
        rw [if_pos c, if_pos hj]
      · refine sumI_congr (fun j hj => ?_)
        show h (if V.testBit i = true then (if 2 ^ pop i V + j < 2 ^ pop i V then xp V i (2 ^ pop i V + j) else 2 ^ i + xp V i (2 ^ pop i V + j - 2 ^ pop i V)) else xp V i (2 ^ pop i V + j)) = _
        rw [if_pos c, if_neg (by omega), Nat.add_sub_cancel_left]
    · have e1 : pop (i + 1) V = pop i V := by rw [pop_s, if_neg c]; rfl
      rw [e1]
      show _ = if V.testBit i = true then sbS V i h + sbS V i (fun x => h (2 ^ i + x)) else sbS V i h
      rw [if_neg c, ← ih h]
      refine sumI_congr (fun j hj => ?_)
      show h (if V.testBit i = true then (if j < 2 ^ pop i V then xp V i j else 2 ^ i + xp V i (j - 2 ^ pop i V)) else xp V i j) = _
      rw [if_neg c]
theorem prd_congr {s : Nat → Nat} {V x y : Nat} : ∀ {i : Nat}, (∀ j, j < i → x.testBit j = y.testBit j) → prd s V x i = prd s V y i := by
  intro i
  induction i with
  | zero => intro _; rfl
  | succ i ih =>
    intro h
    unfold prd
    rw [ih (fun j hj => h j (by omega)), h i (by omega)]
/-- sums of the voices that think so -/
def ysm (v : Nat → Int) (x n : Nat) : Int := sumI (fun a => if x.testBit a = true then v a else 0) n
theorem ysm_congr {v : Nat → Int} {x y : Nat} {i : Nat} (h : ∀ j, j < i → x.testBit j = y.testBit j) : ysm v x i = ysm v y i := sumI_congr (fun j hj => by rw [h j hj])
section CH
variable {l : Launch} {e : hv_Ev} {σ : hv_S} {D : hD} {hb : hB} {It : hT} {m : Nat} {n : Nat} {v : Nat → Int} {W : Int}
def odI (σ : hv_S) (z : Nat) (A B : Nat → Int) : Prop := ∀ j, j < z → σ.2.1 33 j = lZ (A j) ∧ σ.2.1 34 j = lZ (B j)
theorem x_fork {Φ : hv_S → Prop} {z q : Nat} {A B : Nat → Int} {w : Int} (hz : z + z ≤ 256) (hq : q ≤ 10) (hA : odI σ z A B)
    (k : ∀ σ', TE σ σ' → σ'.1 = σ.1 → (∀ p j, p ≠ 33 → p ≠ 34 → σ'.2.1 p j = σ.2.1 p j) → (∀ j, j < z → σ'.2.1 33 j = lZ (A j * ((10 - q : Nat) : Int)) ∧ σ'.2.1 34 j = lZ (B j) ∧ σ'.2.1 33 (z + j) = lZ (A j * (q : Int)) ∧ σ'.2.1 34 (z + j) = lZ (B j + w)) → Φ σ') :
    hv_CV l (hv_e1 e) 0 m_X6_fork [.ref 21, .int (nI z), .long (lZ w), .int (nI q)] σ Φ := by
  refine B_X6_fork _ _ _ ?_
  have e10 : (10 : Int32) - nI q = nI (10 - q) := by rw [show (10 : Int32) = nI 10 from rfl, pk_sub hq]
  suffices ∀ d i σ', i + d = z → TE σ σ' → σ'.1 = σ.1 → (∀ p j, p ≠ 33 → p ≠ 34 → σ'.2.1 p j = σ.2.1 p j) → (∀ j, j < z → (j < i → σ'.2.1 33 j = lZ (A j * ((10 - q : Nat) : Int))) ∧ (i ≤ j → σ'.2.1 33 j = lZ (A j)) ∧ σ'.2.1 34 j = lZ (B j) ∧ (j < i → σ'.2.1 33 (z + j) = lZ (A j * (q : Int)) ∧ σ'.2.1 34 (z + j) = lZ (B j + w))) → L_X6_fork_3 l e Φ (nI z) (lZ w) (nI q) (nI i) σ' by
    exact this z 0 σ (by omega) (TE.refl σ) rfl (fun _ _ _ _ => rfl) (fun j hj => ⟨fun c => by omega, fun _ => (hA j hj).1, (hA j hj).2, fun c => by omega⟩)
  intro d
  induction d with
  | zero =>
    intro i σ' hi hT h1 hp hj
    exact B_X6_fork_3 _ _ _ _ ⟨fun _ => k σ' hT h1 hp (fun j hj' => ⟨(hj j hj').1 (by omega), (hj j hj').2.2.1, ((hj j hj').2.2.2 (by omega)).1, ((hj j hj').2.2.2 (by omega)).2⟩), fun q2 => absurd (nI_le (by omega) (by omega)) q2⟩
  | succ d ih =>
    intro i σ' hi hT h1 hp hj
    have hi2 : i < z := by omega
    obtain ⟨g1, g2, g3, g4⟩ := hj i hi2
    have hv1 : vp_in (nI i) 256 := vp_in_nI (by omega) (by decide)
    have hv2 : vp_in (nI (z + i)) 256 := vp_in_nI (by omega) (by decide)
    refine B_X6_fork_3 _ _ _ _ ⟨fun q2 => absurd q2 (nI_ge (by omega) (by omega)), fun _ => ?_⟩
    rw [nI_add]
    refine ⟨fun q2 => absurd q2 (by rw [show (256 : Int32) = nI 256 from rfl]; exact nI_ge (by omega) (by omega)), fun _ => ⟨hv1, hv2, hv1, hv2, hv1, hv1, ?_⟩⟩
    rw [nI_clamp (by omega), nI_clamp (by omega), e10, nI_1, ul_1, if_neg (fun c => by omega), g2 (by omega), g3, nI_lZ (by omega), nI_lZ (by omega), lZ_mul, lZ_mul, lZ_add]
    refine ih (i + 1) _ (by omega) (hT.trans ((TE.ul (by decide)).trans ((TE.ul (by decide)).trans (TE.ul (by decide))))) h1 (fun p j p1 p2 => ?_) (fun j hj' => ?_)
    · rw [ul_1, if_neg (fun c => p1 c.1), ul_1, if_neg (fun c => p2 c.1), ul_1, if_neg (fun c => p1 c.1)]; exact hp p j p1 p2
    · obtain ⟨f1, f2, f3, f4⟩ := hj j hj'
      refine ⟨fun c => ?_, fun c => ?_, ?_, fun c => ⟨?_, ?_⟩⟩
      · rw [ul_1]
        by_cases c2 : j = i
        · rw [if_pos ⟨rfl, c2⟩, c2]
        · rw [if_neg (fun c3 => c2 c3.2), ul_1, if_neg (fun c3 => absurd c3.1 (by decide)), ul_1, if_neg (fun c3 => by omega)]; exact f1 (by omega)
      · rw [ul_1, if_neg (fun c3 => by omega), ul_1, if_neg (fun c3 => absurd c3.1 (by decide)), ul_1, if_neg (fun c3 => by omega)]; exact f2 (by omega)
      · rw [ul_1, if_neg (fun c3 => absurd c3.1 (by decide)), ul_1, if_neg (fun c3 => by omega), ul_1, if_neg (fun c3 => absurd c3.1 (by decide))]; exact f3
      · rw [ul_1, if_neg (fun c3 => by omega), ul_1, if_neg (fun c3 => absurd c3.1 (by decide)), ul_1]
        by_cases c2 : j = i
        · rw [if_pos ⟨rfl, by rw [c2]⟩, c2]
        · rw [if_neg (fun c3 => by omega)]; exact (f4 (by omega)).1
      · rw [ul_1, if_neg (fun c3 => absurd c3.1 (by decide)), ul_1]
        by_cases c2 : j = i
        · rw [if_pos ⟨rfl, by rw [c2]⟩, c2]
        · rw [if_neg (fun c3 => by omega), ul_1, if_neg (fun c3 => absurd c3.1 (by decide))]; exact (f4 (by omega)).2
theorem x_chance {Φ : Int64 → hv_S → Prop} (hR : RX D hb It σ) (hm : m < 3) (hW : hWF D) (h7 : σ.2.1 21 7 = lZ (sumI v (D 0 0))) (hw : ∀ a, a < 8 → σ.2.1 32 a = lZ (v a)) (hv : ∀ a, 0 ≤ v a ∧ v a ≤ 800000000)
    (k : ∀ σ', TE σ σ' → σ'.1 = σ.1 → (∀ p j, p ≠ 33 → p ≠ 34 → σ'.2.1 p j = σ.2.1 p j) → Φ (lZ (10 ^ (8 - pop 8 (msk (fun a => decide (0 < v a)) (D 0 0))) * chn D m v)) σ') : hv_CL l (hv_e1 e) 1 m_X6_chance [.ref 21, .int (nI m)] σ Φ := by
  have hn := hW.1
  obtain ⟨V, hV⟩ : ∃ V, V = msk (fun a => decide (0 < v a)) (D 0 0) := ⟨_, rfl⟩
  have hVl : V < 2 ^ D 0 0 := by rw [hV]; exact msk_lt _ _
  have hV8 : V < 256 := Nat.lt_of_lt_of_le hVl (Nat.pow_le_pow_right (by decide) hn)
  have hp8 : pop 8 V ≤ 8 := pop_le V 8
  have hpn : pop (D 0 0) V = pop 8 V := by
    have : ∀ d, D 0 0 + d ≤ 8 → pop (D 0 0 + d) V = pop (D 0 0) V := by
      intro d
      induction d with
      | zero => intro _; rfl
      | succ d ih =>
        intro hd
        rw [← Nat.add_assoc, pop_s, ih (by omega), if_neg (by rw [tb_hi hVl (by omega)]; decide)]; rfl
    have h2 := this (8 - D 0 0) (by omega)
    rw [show D 0 0 + (8 - D 0 0) = 8 by omega] at h2
    exact h2.symm
  refine B_X6_chance _ (x_withVoices (v := v) hR.1.1 hn hw hv ?_)
  rw [← hV]
  rw [← hV] at k
  refine ⟨vp_in_nI (n := 0) (by decide) (by decide), vp_in_nI (n := 0) (by decide) (by decide), j_bitCount hV8 ?_⟩
  -- the loop of tens
  suffices h53 : ∀ σ1, TE σ σ1 → σ1.1 = σ.1 → (∀ p j, p ≠ 33 → p ≠ 34 → σ1.2.1 p j = σ.2.1 p j) → σ1.2.1 33 0 = lZ (10 ^ (8 - pop 8 V)) → σ1.2.1 34 0 = lZ 0 → L_X6_chance_53 l e Φ (nI m) (nI V) 1 0 σ1 by
    suffices ∀ d i σ1, i + d = 8 → pop 8 V ≤ i → TE σ σ1 → σ1.1 = σ.1 → (∀ p j, p ≠ 33 → p ≠ 34 → σ1.2.1 p j = σ.2.1 p j) → σ1.2.1 33 0 = lZ (10 ^ (i - pop 8 V)) → σ1.2.1 34 0 = lZ 0 → L_X6_chance_24 l e Φ (nI m) (nI V) (nI i) σ1 by
      refine this (8 - pop 8 V) (pop 8 V) _ (by omega) (Nat.le_refl _) ((TE.ul (by decide)).trans (TE.ul (by decide))) rfl (fun p j p1 p2 => ?_) ?_ ?_
      · rw [ul_1, if_neg (fun c => p2 c.1), ul_1, if_neg (fun c => p1 c.1)]
      · rw [ul_1, if_neg (fun c => absurd c.1 (by decide)), ul_1, if_pos ⟨rfl, rfl⟩, Nat.sub_self]; rfl
      · rw [ul_1, if_pos ⟨rfl, rfl⟩]; rfl
    intro d
    induction d with
    | zero =>
      intro i σ1 hi hpi hT h1 hp h3 h4
      have hi8 : i = 8 := by omega
      subst hi8
      exact B_X6_chance_24 _ _ _ ⟨fun _ => h53 σ1 hT h1 hp h3 h4, fun q => absurd (Int32.le_refl _) q⟩
    | succ d ih =>
      intro i σ1 hi hpi hT h1 hp h3 h4
      refine B_X6_chance_24 _ _ _ ⟨fun q => absurd q (by rw [show (8 : Int32) = nI 8 from rfl]; exact nI_ge (by omega) (by omega)), fun _ => ⟨vp_in_nI (n := 0) (by decide) (by decide), vp_in_nI (n := 0) (by decide) (by decide), ?_⟩⟩
      rw [nI_1, h3]
      refine ih (i + 1) _ (by omega) (by omega) (hT.trans (TE.ul (by decide))) h1 (fun p j p1 p2 => ?_) ?_ ?_
      · rw [ul_1, if_neg (fun c => p1 c.1)]; exact hp p j p1 p2
      · rw [ul_1, if_pos ⟨rfl, rfl⟩, ← lZ_10, lZ_mul, show i + 1 - pop 8 V = (i - pop 8 V) + 1 by omega, Int.pow_succ]
      · rw [ul_1, if_neg (fun c => absurd c.1 (by decide))]; exact h4
  -- the loop over members
  obtain ⟨T, hT0⟩ : ∃ T : Int, T = 10 ^ (8 - pop 8 V) := ⟨_, rfl⟩
  obtain ⟨s, hs⟩ : ∃ s : Nat → Nat, s = fun a => D 6 (8 * m + a) := ⟨_, rfl⟩
  intro σ1 hT1 h11 hp1 h31 h41
  suffices ∀ d i σ2, i + d = D 0 0 → TE σ σ2 → σ2.1 = σ.1 → (∀ p j, p ≠ 33 → p ≠ 34 → σ2.2.1 p j = σ.2.1 p j) → odI σ2 (2 ^ pop i V) (fun j => T * prd s V (xp V i j) i) (fun j => ysm v (xp V i j) i) → L_X6_chance_53 l e Φ (nI m) (nI V) (nI (2 ^ pop i V)) (nI i) σ2 by
    refine this (D 0 0) 0 σ1 (by omega) hT1 h11 hp1 (fun j hj => ?_)
    have hj0 : j = 0 := by
      have : j < 1 := hj
      omega
    subst hj0
    refine ⟨?_, ?_⟩
    · rw [h31, ← hT0]; show lZ T = lZ (T * 1); rw [Int.mul_one]
    · rw [h41]; rfl
  intro d
  induction d with
  | zero =>
    intro i σ2 hi hT2 h12 hp2 hod
    have hin : i = D 0 0 := by omega
    subst hin
    have hR2 := hR.of hT2.1
    refine B_X6_chance_53 _ _ _ _ ⟨fun _ => ?_, fun q => absurd (by rw [hR2.1.1]; exact nI_le (Nat.le_refl _) (by omega)) q⟩
    have hz : 2 ^ pop (D 0 0) V ≤ 2 ^ 8 := Nat.pow_le_pow_right (by decide) (by omega)
    -- the sum
    suffices ∀ d j, j + d = 2 ^ pop (D 0 0) V → L_X6_chance_116 l e Φ (nI (2 ^ pop (D 0 0) V)) (lZ (sumI (fun j => if dcd D v (xp V (D 0 0) j) = true then T * prd s V (xp V (D 0 0) j) (D 0 0) else 0) j)) (nI j) σ2 by
      exact this (2 ^ pop (D 0 0) V) 0 (by omega)
    intro d
    induction d with
    | zero =>
      intro j hj
      have hj2 : j = 2 ^ pop (D 0 0) V := by omega
      subst hj2
      refine B_X6_chance_116 _ _ _ ⟨fun _ => ?_, fun q => absurd (Int32.le_refl _) q⟩
      have e1 := xp_sum V (D 0 0) (fun x => if dcd D v x = true then T * prd s V x (D 0 0) else 0)
      have e2 : ∀ i (f : Nat → Int), sbS V i (fun x => if dcd D v x = true then T * f x else 0) = T * sbS V i (fun x => if dcd D v x = true then f x else 0) := by
        intro i f
        have key : ∀ i (g : Nat → Int), sbS V i (fun x => T * g x) = T * sbS V i g := by
          intro i
          induction i with
          | zero => intro g; rfl
          | succ i ih =>
            intro g
            show (if V.testBit i = true then sbS V i (fun x => T * g x) + sbS V i (fun x => T * g (2 ^ i + x)) else sbS V i (fun x => T * g x)) = T * (if V.testBit i = true then sbS V i g + sbS V i (fun x => g (2 ^ i + x)) else sbS V i g)
            by_cases c : V.testBit i = true
            · rw [if_pos c, if_pos c, ih g, ih (fun x => g (2 ^ i + x)), Int.mul_add]
            · rw [if_neg c, if_neg c, ih g]
        rw [← key i (fun x => if dcd D v x = true then f x else 0)]
        refine congrArg (sbS V i) (funext (fun x => ?_))
        show (if dcd D v x = true then T * f x else 0) = T * (if dcd D v x = true then f x else 0)
        split
        · rfl
        · rw [Int.mul_zero]
      have e3 : T * chn D m v = sumI (fun j => if dcd D v (xp V (D 0 0) j) = true then T * prd s V (xp V (D 0 0) j) (D 0 0) else 0) (2 ^ pop (D 0 0) V) := by
        rw [e1, e2 (D 0 0) (fun x => prd s V x (D 0 0))]
        unfold chn
        rw [← hV, hs]
      have := k σ2 hT2 h12 hp2
      rw [← hT0, e3] at this
      exact this
    | succ d ih =>
      intro j hj
      have hj2 : j < 2 ^ pop (D 0 0) V := by omega
      obtain ⟨g1, g2⟩ := hod j hj2
      have hvj : vp_in (nI j) 256 := vp_in_nI (by omega) (by decide)
      have hX := sumI_v (n := D 0 0) (v := v) (B := 800000000) (fun a _ => hv a)
      have hY := sumI_v (n := D 0 0) (v := fun a => if (xp V (D 0 0) j).testBit a = true then v a else 0) (B := 800000000) (fun a _ => by
        have := hv a
        show 0 ≤ (if _ then v a else 0) ∧ (if _ then v a else 0) ≤ 800000000
        split <;> omega)
      have hY' : 0 ≤ ysm v (xp V (D 0 0) j) (D 0 0) ∧ ysm v (xp V (D 0 0) j) (D 0 0) ≤ 6400000000 := ⟨hY.1, by
        have h := hY.2
        show sumI (fun a => if (xp V (D 0 0) j).testBit a = true then v a else 0) (D 0 0) ≤ _
        omega⟩
      have hd : dcd D v (xp V (D 0 0) j) = true ↔ (D 0 4 : Int) * sumI v (D 0 0) < (D 0 5 : Int) * ysm v (xp V (D 0 0) j) (D 0 0) := by unfold dcd ysm; exact decide_eq_true_iff
      have e0 : ∀ f : Nat → Int, sumI f (j + 1) = sumI f j + f j := fun f => rfl
      refine B_X6_chance_116 _ _ _ ⟨fun q => absurd q (nI_ge (by omega) (by omega)), fun _ => ⟨hvj, ?_⟩⟩
      rw [nI_clamp (by omega), g2, nI_1]
      refine x_decides hR2 hW (X := sumI v (D 0 0)) (Y := ysm v (xp V (D 0 0) j) (D 0 0)) (by rw [hp2 21 7 (by decide) (by decide)]; exact h7) ⟨hX.1, by omega⟩ hY' (fun c => ⟨fun _ => ?_, fun q => absurd rfl q⟩) (fun c => ⟨fun q => absurd q (by decide), fun _ => ⟨hvj, ?_⟩⟩)
      · have := ih (j + 1) (by omega)
        rw [e0, if_neg (fun z => c (hd.mp z)), Int.add_zero] at this
        exact this
      · have := ih (j + 1) (by omega)
        rw [e0, if_pos (hd.mpr c), ← lZ_add] at this
        rw [g1]
        exact this
  | succ d ih =>
    intro i σ2 hi hT2 h12 hp2 hod
    have hR2 := hR.of hT2.1
    have hi8 : i < D 0 0 := by omega
    have hpi := pop_le V i
    have hz : 2 ^ pop i V ≤ 2 ^ 7 := Nat.pow_le_pow_right (by decide) (by omega)
    refine B_X6_chance_53 _ _ _ _ ⟨fun q => absurd q (by rw [hR2.1.1]; exact nI_ge (by omega) (by omega)), fun _ => ⟨fun q => ?_, fun q => ⟨vp_in_nI (by omega) (by decide), B_X9_cell _ _ ?_⟩⟩⟩
    · have q1 := (bt_0 (by omega) (by omega)).mp q
      have e1 : pop (i + 1) V = pop i V := by rw [pop_s, q1]; rfl
      have := ih (i + 1) σ2 (by omega) hT2 h12 hp2 (fun j hj => ?_)
      · rw [e1] at this
        rw [nI_1]
        exact this
      · rw [e1] at hj
        have e2 : xp V (i + 1) j = xp V i j := by
          show (if V.testBit i = true then (if j < 2 ^ pop i V then xp V i j else 2 ^ i + xp V i (j - 2 ^ pop i V)) else xp V i j) = _
          rw [if_neg (by rw [q1]; decide)]
        obtain ⟨g1, g2⟩ := hod j hj
        rw [g1, g2]
        refine ⟨congrArg lZ ?_, congrArg lZ ?_⟩
        · show _ = T * (if V.testBit i = true then prd s V (xp V (i + 1) j) i * _ else prd s V (xp V (i + 1) j) i)
          rw [if_neg (by rw [q1]; decide), e2]
        · show _ = ysm v (xp V (i + 1) j) i + (if (xp V (i + 1) j).testBit i = true then v i else 0)
          rw [e2, if_neg (by rw [tb_hi (xp_lt V i j) (Nat.le_refl _)]; decide), Int.add_zero]
    · have q1 : V.testBit i = true := by
        cases c : V.testBit i with
        | true => rfl
        | false => exact absurd ((bt_0 (by omega) (by omega)).mpr c) q
      have e1 : pop (i + 1) V = pop i V + 1 := by rw [pop_s, if_pos q1]
      have e2 : 2 ^ pop (i + 1) V = 2 ^ pop i V + 2 ^ pop i V := by rw [e1, Nat.pow_succ]; omega
      have hc : 8 * m + i < 24 := by omega
      have ec : nI m * 8 + nI i = nI (8 * m + i) := by simp only [lI, pk_mul, nI_add]; rw [Nat.mul_comm]
      have hsq : D 6 (8 * m + i) ≤ 10 := (hW.2.2.2.2.2.2.2.2.2.1 _ hc).2.2.2.1
      rw [ec, nI_clamp (by omega), nI_clamp (by omega), (hR2.1.2.2.2 _ hc).1, hp2 32 i (by decide) (by decide), hw i (by omega)]
      refine ⟨vp_in_nI hc (by decide), x_fork (by omega) hsq hod (fun σ3 hT3 h13 hp3 hj3 => ?_)⟩
      have e3 : nI (2 ^ pop i V) * 2 = nI (2 ^ pop (i + 1) V) := by rw [e2, show (2 : Int32) = nI 2 from rfl, pk_mul]; congr 1; omega
      rw [e3, nI_1]
      refine ih (i + 1) σ3 (by omega) (hT2.trans hT3) (h13.trans h12) (fun p j p1 p2 => (hp3 p j p1 p2).trans (hp2 p j p1 p2)) (fun j hj => ?_)
      have exq : ∀ j, xp V (i + 1) j = if j < 2 ^ pop i V then xp V i j else 2 ^ i + xp V i (j - 2 ^ pop i V) := fun j => by
        show (if V.testBit i = true then (if j < 2 ^ pop i V then xp V i j else 2 ^ i + xp V i (j - 2 ^ pop i V)) else xp V i j) = _
        rw [if_pos q1]
      have eP : ∀ x, prd s V x (i + 1) = prd s V x i * ((if x.testBit i = true then s i else 10 - s i : Nat) : Int) := fun x => by
        show (if V.testBit i = true then prd s V x i * _ else prd s V x i) = _
        rw [if_pos q1]
      have eY : ∀ x, ysm v x (i + 1) = ysm v x i + (if x.testBit i = true then v i else 0) := fun x => rfl
      have esi : s i = D 6 (8 * m + i) := by rw [hs]
      by_cases c : j < 2 ^ pop i V
      · obtain ⟨g1, g2, -, -⟩ := hj3 j c
        have hnb : ¬ (xp V i j).testBit i = true := by rw [tb_hi (xp_lt V i j) (Nat.le_refl _)]; decide
        rw [g1, g2]
        refine ⟨congrArg lZ ?_, congrArg lZ ?_⟩
        · show _ = T * prd s V (xp V (i + 1) j) (i + 1)
          rw [eP, exq, if_pos c, if_neg hnb, esi, Int.mul_assoc]
        · show _ = ysm v (xp V (i + 1) j) (i + 1)
          rw [eY, exq, if_pos c, if_neg hnb, Int.add_zero]
      · obtain ⟨-, -, g1, g2⟩ := hj3 (j - 2 ^ pop i V) (by omega)
        rw [show 2 ^ pop i V + (j - 2 ^ pop i V) = j by omega] at g1 g2
        have hlt := xp_lt V i (j - 2 ^ pop i V)
        have hnb : (xp V i (j - 2 ^ pop i V)).testBit i = false := tb_hi hlt (Nat.le_refl _)
        have hb1 : (2 ^ i + xp V i (j - 2 ^ pop i V)).testBit i = true := by rw [Nat.testBit_two_pow_add_eq, hnb]; rfl
        have hb2 : ∀ a, a < i → (2 ^ i + xp V i (j - 2 ^ pop i V)).testBit a = (xp V i (j - 2 ^ pop i V)).testBit a := fun a ha => Nat.testBit_two_pow_add_gt ha _
        rw [g1, g2]
        refine ⟨congrArg lZ ?_, congrArg lZ ?_⟩
        · show _ = T * prd s V (xp V (i + 1) j) (i + 1)
          rw [eP, exq, if_neg c, if_pos hb1, esi, prd_congr hb2, Int.mul_assoc]
        · show _ = ysm v (xp V (i + 1) j) (i + 1)
          rw [eY, exq, if_neg c, if_pos hb1, ysm_congr hb2]
end CH
