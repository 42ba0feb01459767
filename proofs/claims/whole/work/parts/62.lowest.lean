-- LOWEST TERMS
def lwN (y w p : Nat) : Nat := if p = 0 then y / Nat.gcd y w else w / Nat.gcd y w
theorem lN_div {a b : Nat} (ha : a < 2 ^ 62) (hb0 : 0 < b) (hb : b < 2 ^ 62) : lZ (a : Int) / lZ (b : Int) = lZ ((a / b : Nat) : Int) := by
  have hle := Nat.div_le_self a b
  generalize hq : a / b = q at *
  apply Int64.toInt_inj.mp
  rw [Int64.toInt_div_of_ne_right, lZ_i (by omega) (by omega), lZ_i (by omega) (by omega), lZ_i (by omega) (by omega)]
  · rw [← hq]; rfl
  · intro q2
    have : (lZ (b : Int)).toInt = (-1 : Int64).toInt := by rw [q2]
    rw [lZ_i (by omega) (by omega), show (-1 : Int64).toInt = -1 by decide] at this
    omega
theorem lN_mod {a b : Nat} (ha : a < 2 ^ 62) (hb0 : 0 < b) (hb : b < 2 ^ 62) : lZ (a : Int) - lZ (a : Int) / lZ (b : Int) * lZ (b : Int) = lZ ((a % b : Nat) : Int) := by
  have h1 : a / b * b + a % b = a := by rw [Nat.mul_comm]; exact Nat.div_add_mod a b
  have h2 : (((a / b : Nat) : Int) * (b : Int)) = ((a / b * b : Nat) : Int) := (Int.natCast_mul _ _).symm
  rw [lN_div ha hb0 hb, lZ_mul, lZ_sub, h2]
  congr 1
  omega
theorem lN_0 {b : Nat} (hb : b < 2 ^ 62) : lZ (b : Int) = 0 ↔ b = 0 := by
  rw [← lZ_0, lZ_eq (by omega) (by omega) (by omega) (by omega)]
  omega
theorem gcd_step (a b : Nat) : Nat.gcd a b = Nat.gcd b (a % b) := by rw [Nat.gcd_comm a b, Nat.gcd_rec b a, Nat.gcd_comm]
section LW
variable {l : Launch} {e : hv_Ev} {σ : hv_S}
theorem x_cdiv {Φ : Int64 → hv_S → Prop} : ∀ k a b i, b < 2 ^ k → i + 2 * k ≤ 127 → a < 2 ^ 62 → b < 2 ^ 62 → Φ (lZ (Nat.gcd a b : Nat)) σ → L_X9_commonDivisor_3 l e Φ (lZ (a : Int)) (lZ (b : Int)) (nI i) σ := by
  intro k
  induction k with
  | zero =>
    intro a b i hb hi ha hb2 hk
    have hb0 : b = 0 := by
      have : b < 1 := hb
      omega
    subst hb0
    rw [Nat.gcd_zero_right] at hk
    exact B_X9_commonDivisor_3 _ _ _ ⟨fun _ => hk, fun _ => ⟨fun _ => hk, fun q => absurd rfl q⟩⟩
  | succ k ih =>
    intro a b i hb hi ha hb2 hk
    have n128 : ∀ j, j ≤ 127 → ¬ (128 : Int32) ≤ nI j := fun j hj => by rw [show (128 : Int32) = nI 128 from rfl]; exact nI_ge (by omega) (by omega)
    refine B_X9_commonDivisor_3 _ _ _ ⟨fun q => absurd q (n128 i (by omega)), fun _ => ⟨fun q => ?_, fun q => ⟨q, ?_⟩⟩⟩
    · have hb0 := (lN_0 hb2).mp q
      subst hb0
      rw [Nat.gcd_zero_right] at hk
      exact hk
    · have hb0 : 0 < b := Nat.pos_of_ne_zero (fun c => q ((lN_0 hb2).mpr c))
      have hr := Nat.mod_lt a hb0
      rw [lN_mod ha hb0 hb2, nI_1]
      rw [gcd_step] at hk
      generalize a % b = r at *
      refine B_X9_commonDivisor_3 _ _ _ ⟨fun q => absurd q (n128 (i + 1) (by omega)), fun _ => ⟨fun q => ?_, fun q => ⟨q, ?_⟩⟩⟩
      · have hr0 := (lN_0 (by omega)).mp q
        subst hr0
        rw [Nat.gcd_zero_right] at hk
        exact hk
      · have hr0 : 0 < r := Nat.pos_of_ne_zero (fun c => q ((lN_0 (by omega)).mpr c))
        have h2 := Nat.mod_lt b hr0
        have h3 : b / r * r + b % r = b := by rw [Nat.mul_comm]; exact Nat.div_add_mod b r
        have h4 : 1 ≤ b / r := Nat.div_pos (by omega) hr0
        have h5 : r ≤ b / r * r := Nat.le_mul_of_pos_left r h4
        have h6 : 2 ^ (k + 1) = 2 ^ k + 2 ^ k := by rw [Nat.pow_succ]; omega
        rw [lN_mod hb2 hr0 (by omega), nI_1]
        rw [gcd_step] at hk
        exact ih r (b % r) (i + 1 + 1) (by omega) (by omega) (by omega) (by omega) hk
theorem x_lowest {Φ : Int64 → hv_S → Prop} {y w p : Nat} (hy : y < 2 ^ 60) (hw : w < 2 ^ 60) (hw0 : 0 < w) (hp : p ≤ 1) (k : Φ (lZ (lwN y w p : Nat)) σ) :
    hv_CL l (hv_e1 e) 1 m_X9_lowest [.long (lZ (y : Int)), .long (lZ (w : Int)), .int (nI p)] σ Φ := by
  have hg0 : 0 < Nat.gcd y w := Nat.gcd_pos_of_pos_right y hw0
  have hg1 : Nat.gcd y w ≤ w := Nat.gcd_le_right y hw0
  refine B_X9_lowest _ _ _ (B_X9_commonDivisor _ _ (x_cdiv 60 y w 0 hw (by omega) (by omega) (by omega) ?_))
  have hgn : ¬ lZ ((Nat.gcd y w : Nat) : Int) = 0 := fun q => absurd ((lN_0 (by omega)).mp q) (by omega)
  refine ⟨fun _ => ⟨fun q => ⟨hgn, ?_⟩, fun q => ⟨hgn, ?_⟩⟩, fun q => absurd q hgn⟩
  · rw [lN_div (by omega) hg0 (by omega)]
    unfold lwN at k
    rw [if_neg (fun c => q (by rw [c]; rfl))] at k
    exact k
  · have hp0 : p = 0 := (nI_eq (b := 0) (by omega) (by decide)).mp q
    rw [lN_div (by omega) hg0 (by omega)]
    unfold lwN at k
    rw [if_pos hp0] at k
    exact k
end LW
