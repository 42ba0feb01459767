-- VOICES: x, what goes through each, in parts of W
noncomputable def hrd (n : Nat) (G : Nat → Nat → Nat) (a : Nat) : Bool := bo (Rch n G a)
def isV (n : Nat) (G : Nat → Nat → Nat) (cap : Nat) (W : Int) (v : Nat → Int) : Prop := 0 < W ∧ W ≤ 1000000000 ∧ ∃ x : Nat → Int, (∀ a, a < n → hrd n G a = true → 0 ≤ x a ∧ x a * G a a ≤ 8 * W) ∧
  (∀ r, r < n → hrd n G r = true → sumI (fun c => if hrd n G c = true then (if c = r then 10 else - (G c r : Int)) * x c else 0) n = W) ∧ ∀ a, v a = if a < n ∧ hrd n G a = true then min (x a * G a a) (cap * W) else 0
theorem isV_nn {n : Nat} {G : Nat → Nat → Nat} {cap : Nat} {W : Int} {v : Nat → Int} (h : isV n G cap W v) (a : Nat) : 0 ≤ v a ∧ v a ≤ 8 * W := by
  obtain ⟨h1, h2, x, h3, h4, h5⟩ := h
  rw [h5 a]
  by_cases c : a < n ∧ hrd n G a = true
  · rw [if_pos c]
    obtain ⟨x1, x2⟩ := h3 a c.1 c.2
    have y1 := Int.mul_nonneg x1 (show (0 : Int) ≤ (G a a : Int) by omega)
    have y2 := Int.mul_nonneg (show (0 : Int) ≤ (cap : Int) by omega) (show 0 ≤ W by omega)
    omega
  · rw [if_neg c]; omega
def twI (σ : hv_S) (n : Nat) (W : Int) (v : Nat → Int) : Prop := σ.2.1 21 6 = lZ W ∧ σ.2.1 21 7 = lZ (sumI v n) ∧ ∀ a, a < 8 → σ.2.1 32 a = lZ (v a)
theorem sumI_v {n : Nat} {v : Nat → Int} {B : Int} (hB : ∀ a, a < n → 0 ≤ v a ∧ v a ≤ B) : 0 ≤ sumI v n ∧ sumI v n ≤ n * B := by
  refine ⟨sumI_nn (fun a ha => (hB a ha).1), ?_⟩
  induction n with
  | zero => show (0 : Int) ≤ _; omega
  | succ n ih =>
    have := ih (fun a ha => hB a (by omega))
    have := (hB n (by omega)).2
    show sumI v n + v n ≤ _
    have e1 : ((n + 1 : Nat) : Int) * B = n * B + B := by rw [Int.natCast_succ, Int.add_mul, Int.one_mul]
    omega
section WG
variable {l : Launch} {e : hv_Ev} {σ : hv_S} {D : hD} {hb : hB} {It : hT} {m : Nat} {P : hPF} {G : Nat → Nat → Nat}
theorem x_weigh {Φ : hv_S → Prop} {n : Nat} (hR : RX D hb It σ) (hW : hWF D) (hn : n = D 0 0) (hG : rowT n G) (hg : spG σ (fun a b => if a < n then G a b else 0) 0)
    (k : ∀ σ' W v, XE σ σ' → (∀ k', k' ≠ 22 → ∀ j, σ'.1 k' j = σ.1 k' j) → isV n G (D 0 3) W v → W ≤ 100000000 → twI σ' n W v → Φ σ') : hv_CV l (hv_e1 e) 2 m_X6_weigh [.ref 21] σ Φ := by
  have hn8 : n ≤ 8 := by have := hW.1; omega
  refine B_X6_weigh (j_filll (n := 8) hp_32 hs_32 (by decide) (fun σ1 a1 a2 a3 a4 => ?_))
  have hT1 : TE σ σ1 := ⟨⟨a4, fun k' hk' => ⟨fun j => by rw [a3], fun j => a2 k' j (by omega)⟩⟩, fun k' _ j => by rw [a3]⟩
  have hT2 : TE σ (hv_ul σ1 21 7 0) := hT1.trans (TE.ul (by decide))
  have h17 : (hv_ul σ1 21 7 0).1 1 7 = nI n := by rw [hn, ← hR.1.1]; exact hT2.2 1 (by decide) 7
  have hg2 := hg.te hT2
  have hsp : rsp n G (msk (fun a => decide (0 < (if a < n then G a a else 0))) 8) (fun a => msk (fun b => decide (b ≠ a ∧ 0 < (if a < n then G a b else 0))) 8) (hv_ul σ1 21 7 0) := by
    refine ⟨hn8, h17, lt_bits (fun j hj => ?_), fun a ha => ?_, fun a ha => ⟨hg2.2.2 a (by omega) (by simp), msk8 _⟩, fun a b ha hb' hab => ?_⟩
    · rw [msk_bit]; simp [show ¬ j < n by omega]
    · rw [mskI _ a (by omega)]; simp [ha]
    · rw [mskI _ b (by omega)]; simp [ha, show ¬ b = a from fun q => hab q.symm]
  refine x_reaching hsp hg2.2.1 (fun R hRl hRb => ?_)
  refine x_listHeard hn8 h17 hRl (fun σ2 hTa h2a hha => ?_)
  have hT3 := hT2.trans hTa
  refine x_fillRows hn8 hG (hg.te hT3) hha (fun σ3 hTb h1b hrw hob => ?_)
  have hT4 := hT3.trans hTb
  have hp : pop n R ≤ n := pop_le R n
  have hmm := mmx_H hG hn8 hRb
  obtain ⟨z1, z2, z3, z4, z5⟩ := el_end hmm
  have z2' : (elR (cH G R n) (pop n R)).1 ≤ 100000000 := by have := (pw10 (pop n R) (by omega)).1; omega
  refine x_unroll (by omega) hmm hrw (fun σ4 hTc h1c hx ho => ?_)
  have hT5 := hT4.trans hTc
  -- beside rows, nothing but what was filled
  have hR5 := hR.of hT5.1
  have hrul := hR5.2.2.1.2.2.1
  refine ⟨?_, ?_⟩
  · rcases hR5.2.2.1.1 with ⟨-, z⟩ | ⟨-, z⟩ <;> rw [z]
    · exact Or.inr rfl
    · exact Or.inl rfl
  rw [hrul.1]
  have hcap : D 0 3 ≤ 999 := hW.2.2.2.1
  rw [nI_lZ (by omega), lZ_mul]
  generalize hWd : (elR (cH G R n) (pop n R)).1 = W at *
  -- what goes through each, by members
  obtain ⟨x, ex⟩ : ∃ x : Nat → Int, x = fun a => (elR (cH G R n) (pop n R)).2 (pop a R) (pop n R) := ⟨_, rfl⟩
  obtain ⟨w, ew⟩ : ∃ w : Nat → Int, w = fun a => min (x a * (G a a : Int)) ((D 0 3 : Int) * W) := ⟨_, rfl⟩
  have hhrd : ∀ a, a < n → (hrd n G a = true ↔ R.testBit a = true) := fun a ha => bo_t.trans (hRb a ha).symm
  have hleak : ∀ j, j < pop n R → (G (hdL R n j) (hdL R n j) : Int) ≤ sumI (cH G R n j) (pop n R) := fun j hj => by
    have hcs : sumI (cH G R n j) (pop n R) + sumI (fun i => (G (hdL R n j) (hdL R n i) : Int)) (pop n R) = 10 + G (hdL R n j) (hdL R n j) := by
      rw [← sumI_add]
      have : sumI (fun i => cH G R n j i + (G (hdL R n j) (hdL R n i) : Int)) (pop n R) = sumI (fun i => if i = j then 10 + (G (hdL R n j) (hdL R n j) : Int) else 0) (pop n R) := sumI_congr (fun i _ => by
        unfold cH
        rw [if_neg (show ¬ j = pop n R by omega)]
        by_cases q : i = j
        · subst q; simp
        · simp [q]; omega)
      rw [this, sumI_one (k := j) hj (fun i _ hne => if_neg hne)]
      exact if_pos rfl
    have hle : sumI (fun i => (G (hdL R n j) (hdL R n i) : Int)) (pop n R) ≤ 10 := by
      rw [hd_sum (fun b => (G (hdL R n j) b : Int)), ← hG (hdL R n j) (hd_in hj).1]
      exact sumI_le (fun b _ => by split <;> omega)
    omega
  have hxb : ∀ a, a < n → R.testBit a = true → 0 ≤ x a ∧ x a * (G a a : Int) ≤ 8 * W := fun a ha hra => by
    have hpa := pop_up ha hra
    have x0 : 0 ≤ x a := by rw [ex]; exact z3 _ hpa
    have y1 := z5 _ hpa
    have y2 := hleak _ hpa
    rw [hd_of ha hra] at y2
    have y3 : x a * (G a a : Int) ≤ x a * sumI (cH G R n (pop a R)) (pop n R) := Int.mul_le_mul_of_nonneg_left y2 x0
    have y4 : x a * sumI (cH G R n (pop a R)) (pop n R) = (elR (cH G R n) (pop n R)).2 (pop a R) (pop n R) * sumI (cH G R n (pop a R)) (pop n R) := by rw [ex]
    exact ⟨x0, by omega⟩
  have hv : isV n G (D 0 3) W (fun a => if a < n ∧ hrd n G a = true then w a else 0) := by
    refine ⟨z1, by omega, x, fun a ha hra => hxb a ha ((hhrd a ha).mp hra), fun r hr hrr => ?_, fun a => by rw [ew]⟩
    have hpr := pop_up hr ((hhrd r hr).mp hrr)
    have e1 := z4 (pop r R) hpr
    have e2 : cH G R n (pop n R) (pop r R) = 1 := by unfold cH; rw [if_pos rfl]
    rw [e2, Int.mul_one] at e1
    rw [e1]
    have e3 : sumI (fun c => if hrd n G c = true then (if c = r then 10 else - (G c r : Int)) * x c else 0) n = sumI (fun c => if R.testBit c = true then (if c = r then 10 else - (G c r : Int)) * x c else 0) n := sumI_congr (fun c hc => by
      by_cases q : R.testBit c = true
      · rw [if_pos q, if_pos ((hhrd c hc).mpr q)]
      · rw [if_neg q, if_neg (fun z => q ((hhrd c hc).mp z))])
    rw [e3, ← hd_sum (fun c => (if c = r then 10 else - (G c r : Int)) * x c)]
    refine sumI_congr (fun i hi => ?_)
    obtain ⟨i1, i2, i3⟩ := hd_in hi
    have e4 : x (hdL R n i) = (elR (cH G R n) (pop n R)).2 i (pop n R) := by rw [ex]; show (elR (cH G R n) (pop n R)).2 (pop (hdL R n i) R) (pop n R) = _; rw [i3]
    have e5 : cH G R n i (pop r R) = if pop r R = i then 10 else - (G (hdL R n i) r : Int) := by
      unfold cH
      rw [if_neg (show ¬ i = pop n R by omega), hd_of hr ((hhrd r hr).mp hrr)]
    rw [e4, e5, Int.mul_comm]
    congr 1
    by_cases q : pop r R = i
    · rw [if_pos q, if_pos (by rw [← q]; exact hd_of hr ((hhrd r hr).mp hrr))]
    · rw [if_neg q, if_neg (fun z => q (by rw [← z]; exact i3))]
  have hwb : ∀ a, a < n → R.testBit a = true → 0 ≤ w a ∧ w a ≤ 8 * W := fun a ha hra => by
    have := isV_nn hv a
    simp only [if_pos (show a < n ∧ hrd n G a = true from ⟨ha, (hhrd a ha).mpr hra⟩)] at this
    exact this
  suffices ∀ f i σ', i + f = pop n R → TE σ σ' → (∀ l, l < pop n R → σ'.2.1 (24 + l) (pop n R) = lZ ((elR (cH G R n) (pop n R)).2 l (pop n R))) → (∀ r, r < pop n R → σ'.1 22 r = nI (hdL R n r)) → σ'.2.1 21 6 = lZ W → σ'.2.1 21 7 = lZ (sumI (fun r => w (hdL R n r)) i) → (∀ a, a < 8 → σ'.2.1 32 a = lZ (if a < n ∧ R.testBit a = true ∧ pop a R < i then w a else 0)) → L_X6_weigh_59 l e Φ (nI (pop n R)) (lZ ((D 0 3 : Int) * W)) (nI i) σ' by
    refine this (pop n R) 0 _ (by omega) (hT5.trans (TE.ul (by decide))) (fun l hl => ?_) (fun r hr => ?_) ?_ ?_ (fun a ha => ?_)
    · rw [ul_1, if_neg (fun z => by omega)]; exact hx l hl
    · show σ4.1 22 r = _; rw [h1c, h1b]; exact hha r hr
    · rw [ul_1, if_pos ⟨rfl, rfl⟩]
    · rw [ul_1, if_neg (fun z => absurd z.2 (by decide)), ho 21 7 (by omega), hob 21 7 (by omega), h2a, ul_1, if_pos ⟨rfl, rfl⟩]; rfl
    · rw [ul_1, if_neg (fun z => by omega), ho 32 a (by omega), hob 32 a (by omega), h2a, ul_1, if_neg (fun z => by omega), a1 a ha, if_neg (fun z => Nat.not_lt_zero _ z.2.2)]; rfl
  have hWc : 0 ≤ (D 0 3 : Int) * W ∧ (D 0 3 : Int) * W ≤ 999 * 100000000 := by
    have y1 := Int.mul_nonneg (show (0 : Int) ≤ (D 0 3 : Int) by omega) (show 0 ≤ W by omega)
    have y2 : (D 0 3 : Int) * W ≤ (D 0 3 : Int) * 100000000 := Int.mul_le_mul_of_nonneg_left z2' (by omega)
    omega
  intro f
  induction f with
  | zero =>
    intro i σ' hi hT h1 h2 h3 h4 h5
    have hip : i = pop n R := by omega
    refine B_X6_weigh_59 _ _ _ ⟨fun _ => k σ' W _ hT.1 hT.2 hv z2' ⟨h3, ?_, fun a ha => ?_⟩, fun q => absurd (nI_le (by omega) (by omega)) q⟩
    · rw [h4, hip, hd_sum]
      refine congrArg lZ (sumI_congr (fun a ha => ?_))
      by_cases q : R.testBit a = true
      · rw [if_pos q, if_pos ⟨ha, (hhrd a ha).mpr q⟩]
      · rw [if_neg q, if_neg (fun z => q ((hhrd a ha).mp z.2))]
    · rw [h5 a ha]
      refine congrArg lZ ?_
      show _ = (if a < n ∧ hrd n G a = true then w a else 0)
      by_cases q : a < n ∧ R.testBit a = true
      · rw [if_pos ⟨q.1, q.2, by rw [hip]; exact pop_up q.1 q.2⟩, if_pos ⟨q.1, (hhrd a q.1).mpr q.2⟩]
      · rw [if_neg (fun z => q ⟨z.1, z.2.1⟩), if_neg (fun z => q ⟨z.1, (hhrd a z.1).mp z.2⟩)]
  | succ f ih =>
    intro i σ' hi hT h1 h2 h3 h4 h5
    have hip : i < pop n R := by omega
    obtain ⟨i1, i2, i3⟩ := hd_in hip
    obtain ⟨b1, b2⟩ := hxb _ i1 i2
    obtain ⟨w1, w2⟩ := hwb _ i1 i2
    have hg' := (hg.te hT).1 (hdL R n i) (hdL R n i) (by omega) (by omega)
    simp only [if_pos i1] at hg'
    have hGl := row_le hG i1 i1
    have hv8 : vp_in (nI i) 8 := vp_in_nI (by omega) (by decide)
    have hvh : vp_in (nI (hdL R n i)) 8 := vp_in_nI (by omega) (by decide)
    have e2 : nI (hdL R n i) * 8 + nI (hdL R n i) = nI (hdL R n i * 8 + hdL R n i) := by simp only [lI, pk_mul, nI_add]
    have ex2 : (elR (cH G R n) (pop n R)).2 i (pop n R) = x (hdL R n i) := by rw [ex]; show _ = (elR (cH G R n) (pop n R)).2 (pop (hdL R n i) R) (pop n R); rw [i3]
    refine B_X6_weigh_59 _ _ _ ⟨fun q => absurd q (nI_ge (by omega) (by omega)), fun _ => ?_⟩
    rw [nI_clamp (by omega), nI_clamp (by omega), h2 i hip, e2, nI_clamp (by omega), nI_clamp (by omega), hg', h1 i hip, ex2, nI_lZ (by omega), lZ_mul, nI_1]
    have b0 : 0 ≤ x (hdL R n i) * (G (hdL R n i) (hdL R n i) : Int) := Int.mul_nonneg b1 (by omega)
    have hmin : (if lZ ((D 0 3 : Int) * W) < lZ (x (hdL R n i) * (G (hdL R n i) (hdL R n i) : Int)) then lZ ((D 0 3 : Int) * W) else lZ (x (hdL R n i) * (G (hdL R n i) (hdL R n i) : Int))) = lZ (w (hdL R n i)) := by
      rw [ew]
      show _ = lZ (min (x (hdL R n i) * (G (hdL R n i) (hdL R n i) : Int)) ((D 0 3 : Int) * W))
      by_cases q : (D 0 3 : Int) * W < x (hdL R n i) * (G (hdL R n i) (hdL R n i) : Int)
      · rw [if_pos ((lZ_lt (by omega) (by omega) (by omega) (by omega)).mpr q), Int.min_eq_right (by omega)]
      · rw [if_neg (fun z => q ((lZ_lt (by omega) (by omega) (by omega) (by omega)).mp z)), Int.min_eq_left (by omega)]
    rw [hmin, ul_1, if_pos ⟨rfl, rfl⟩]
    refine ⟨hv8, hv8, vp_in_nI (by omega) (by decide), vp_in_nI (by omega) (by decide), hvh, hvh, ?_⟩
    refine ih (i + 1) _ (by omega) (hT.trans ((TE.ul (by decide)).trans (TE.ul (by decide)))) (fun l hl => ?_) h2 ?_ ?_ (fun a ha => ?_)
    · rw [ul_1, if_neg (fun z => by omega), ul_1, if_neg (fun z => by omega)]; exact h1 l hl
    · rw [ul_1, if_neg (fun z => absurd z.2 (by decide)), ul_1, if_neg (fun z => absurd z.1 (by decide))]; exact h3
    · rw [ul_1, if_pos ⟨rfl, rfl⟩, h4, lZ_add]; rfl
    · rw [ul_1, if_neg (fun z => by omega), ul_1]
      by_cases q : a = hdL R n i
      · rw [if_pos ⟨rfl, q⟩, q, if_pos ⟨i1, i2, by omega⟩]
      · rw [if_neg (fun z => q z.2), h5 a ha]
        refine congrArg lZ ?_
        by_cases q2 : a < n ∧ R.testBit a = true ∧ pop a R < i
        · rw [if_pos q2, if_pos ⟨q2.1, q2.2.1, by omega⟩]
        · rw [if_neg q2, if_neg (fun z => q2 ⟨z.1, z.2.1, by
            have : pop a R ≠ i := fun z2 => q (by rw [← i3] at z2; exact pop_inj z.2.1 i2 z2)
            omega⟩)]
end WG
