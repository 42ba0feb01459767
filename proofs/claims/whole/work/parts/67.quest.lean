-- THE REST OF THE FACE'S QUESTIONS
/-- an argument below n, or not -/
def an1 {α : Type} (n : Nat) (x : Int32) (f : Nat → α) (o : α) : α := if x < 0 ∨ nI n ≤ x then o else f x.toInt.toNat
theorem an1_in {α : Type} {n a : Nat} {f : Nat → α} {o : α} (hn : n < 2 ^ 31) (h : a < n) : an1 n (nI a) f o = f a := by
  unfold an1
  rw [if_neg (fun c => c.elim (nI_pos (by omega)) (nI_ge h hn)), nI_toInt (by omega), Int.toNat_natCast]
theorem an1_out {α : Type} {n : Nat} {x : Int32} {f : Nat → α} {o : α} (hn : n < 2 ^ 31) (h : ∀ m, m < n → x ≠ nI m) : an1 n x f o = o := by
  unfold an1
  rw [if_pos (out_le hn h)]
theorem rsp_of {σ : hv_S} {n : Nat} {G : Nat → Nat → Nat} (hn8 : n ≤ 8) (h17 : σ.1 1 7 = nI n) (hg : spG σ (fun a b => if a < n then G a b else 0) 0) :
    rsp n G (msk (fun a => decide (0 < (if a < n then G a a else 0))) 8) (fun a => msk (fun b => decide (b ≠ a ∧ 0 < (if a < n then G a b else 0))) 8) σ := by
  refine ⟨hn8, h17, lt_bits (fun j hj => ?_), fun a ha => ?_, fun a ha => ⟨hg.2.2 a (by omega) (by simp), msk8 _⟩, fun a b ha hb' hab => ?_⟩
  · rw [msk_bit]; simp [show ¬ j < n by omega]
  · rw [mskI _ a (by omega)]; simp [ha]
  · rw [mskI _ b (by omega)]; simp [ha, show ¬ b = a from fun q => hab q.symm]
-- what they tell
noncomputable def lstM (D : hD) (hb : hB) (m : Nat) : Nat := msk (fun a => !hrd (D 0 0) (GX D hb m (D 0 1) 0 none) a) (D 0 0)
noncomputable def shA (D : hD) (hb : hB) (x y z : Int32) : Int32 := an1 (D 0 0) x (fun a => an1 (D 0 0) y (fun b => an1 3 z (fun m => nI (GX D hb m (D 0 1) 0 none a b)) (-1)) (-1)) (-1)
def baA (D : hD) (hb : hB) (x y z : Int32) : Int32 := an1 (D 0 0) x (fun a => an1 (D 0 0) y (fun b => an1 3 z (fun m => if a = b then -2 else bI (bar D hb m a b)) (-1)) (-1)) (-1)
/-- those without whom it is otherwise -/
noncomputable def trM (D : hD) (hb : hB) (m : Nat) : Nat := msk (fun a => dcC D hb m (D 0 1) 0 (yeM D m) != dcC D hb m (D 0 1) 0 (yeM D m ^^^ 2 ^ a)) (D 0 0)
/-- the others with voices -/
noncomputable def othM (D : hD) (hb : hB) (m a : Nat) : Nat := mns (msk (fun b => decide (0 < (cnV D hb m (D 0 1) 0 none).2 b)) (D 0 0)) (2 ^ a)
noncomputable def pwS (D : hD) (hb : hB) (m a : Nat) : Nat → Nat
  | 0 => 0
  | s + 1 => pwS D hb m a s + if mns s (othM D hb m a) = 0 ∧ dcC D hb m (D 0 1) 0 (s ||| 2 ^ a) ≠ dcC D hb m (D 0 1) 0 s then 1 else 0
noncomputable def pwA (D : hD) (hb : hB) (x y : Int32) : Int32 := an1 (D 0 0) x (fun a => an1 3 y (fun m => nI (pwS D hb m a (2 ^ D 0 0))) (-1)) (-1)
noncomputable def beA (D : hD) (hb : hB) (x y : Int32) : Int32 := an1 3 x (fun m => if y = -1 then nI (cnt (pfD D hb m) (ehD D m (D 0 1))) else an1 (D 0 0) y (fun a => if isO (ehD D m (D 0 1)) a = true then (match bst (pfD D hb m) (ehD D m (D 0 1)) with | none => -5 | some w => nI (if w.testBit a = true then 1 else 0)) else -1) (-1)) (-1)
section Q
variable {l : Launch} {e : hv_Ev} {σ : hv_S} {D : hD} {hb : hB} {It : hT}
theorem an1_k {α : Type} {n : Nat} {f : Nat → α} {o : α} {x : Int32} {P : α → Prop} (hn : n < 2 ^ 31) (h : P (an1 n x f o)) : ((∀ m, m < n → x ≠ nI m) → P o) ∧ ∀ m, m < n → x = nI m → P (f m) :=
  ⟨fun q => by rw [an1_out hn q] at h; exact h, fun m hm q => by rw [q, an1_in hn hm] at h; exact h⟩
theorem x_share {Φ : Int32 → hv_S → Prop} (hR : RX D hb It σ) (hW : hWF D) (x y z : Int32) (k : ∀ σ', XF σ σ' → Φ (shA D hb x y z) σ') : hv_CI l (hv_e1 e) 5 m_X9_share [.ref 0, .int x, .int y, .int z] σ Φ := by
  have hn := hW.1
  refine B_X9_share _ _ _ (x_sits hR hW x (fun h => ⟨fun _ => ?_, fun q => absurd rfl q⟩) (fun a ha hx => ⟨fun q => absurd q (by decide), fun _ => x_sits hR hW y (fun h => ⟨fun _ => ?_, fun q => absurd rfl q⟩) (fun b hb' hy => ⟨fun q => absurd q (by decide), fun _ => x_isMatter z (fun h => ⟨fun q => absurd rfl q, fun _ => ?_⟩) (fun m hm hz => ⟨fun _ => ?_, fun q => absurd q (by decide)⟩)⟩)⟩))
  · have := k σ (XF.refl σ); unfold shA at this; rw [an1_out (by omega) h] at this; exact this
  · have := k σ (XF.refl σ); unfold shA at this; rw [hx, an1_in (by omega) ha, an1_out (by omega) h] at this; exact this
  · have := k σ (XF.refl σ); unfold shA at this; rw [hx, an1_in (by omega) ha, hy, an1_in (by omega) hb', an1_out (by omega) h] at this; exact this
  · subst hx
    subst hy
    subst hz
    rw [hR.1.2.1]
    refine x_lay (S := 0) (gt := none) hR hm hW hW.2.1 (by decide) gtW0 (fun σ1 hX hB hg => ?_)
    have e1 : nI a * 8 + nI b = nI (a * 8 + b) := by simp only [lI, pk_mul, nI_add]
    rw [e1, nI_clamp (by omega), hg.1 a b (by omega) (by omega)]
    have := k σ1 hX.w
    unfold shA at this
    rw [an1_in (by omega) ha, an1_in (by omega) hb', an1_in (by omega) hm] at this
    refine ⟨vp_in_nI (by omega) (by decide), ?_⟩
    unfold Gn
    rw [if_pos (show a < (pfD D hb m).1 from ha)]
    exact this
theorem x_barred {Φ : Int32 → hv_S → Prop} (hR : RX D hb It σ) (hW : hWF D) (x y z : Int32) (k : Φ (baA D hb x y z) σ) : hv_CI l (hv_e1 e) 2 m_X9_barred [.ref 0, .int x, .int y, .int z] σ Φ := by
  have hn := hW.1
  unfold baA at k
  refine B_X9_barred _ _ _ (x_sits hR hW x (fun h => ⟨fun _ => ?_, fun q => absurd rfl q⟩) (fun a ha hx => ⟨fun q => absurd q (by decide), fun _ => x_sits hR hW y (fun h => ⟨fun _ => ?_, fun q => absurd rfl q⟩) (fun b hb' hy => ⟨fun q => absurd q (by decide), fun _ => x_isMatter z (fun h => ⟨fun q => absurd rfl q, fun _ => ?_⟩) (fun m hm hz => ⟨fun _ => ⟨fun hne => ?_, fun heq => ?_⟩, fun q => absurd q (by decide)⟩)⟩)⟩))
  · rw [an1_out (by omega) h] at k; exact k
  · rw [hx, an1_in (by omega) ha, an1_out (by omega) h] at k; exact k
  · rw [hx, an1_in (by omega) ha, hy, an1_in (by omega) hb', an1_out (by omega) h] at k; exact k
  · subst hx
    subst hy
    subst hz
    rw [an1_in (by omega) ha, an1_in (by omega) hb', an1_in (by omega) hm, if_neg (fun c => hne (by rw [c]))] at k
    refine x_bars hR hm (by omega) (by omega) (fun c => ⟨fun _ => ?_, fun q => absurd rfl q⟩) (fun c => ⟨fun q => absurd q (by decide), fun _ => ?_⟩)
    · rw [c] at k; exact k
    · rw [c] at k; exact k
  · subst hx
    subst hy
    subst hz
    have hab : a = b := (nI_eq (by omega) (by omega)).mp heq
    rw [an1_in (by omega) ha, an1_in (by omega) hb', an1_in (by omega) hm, if_pos hab] at k
    exact k
theorem x_lost {Φ : Int32 → hv_S → Prop} (hR : RX D hb It σ) (hW : hWF D) (x : Int32) (k : ∀ σ', XF σ σ' → Φ (an1 3 x (fun m => nI (lstM D hb m)) (-1)) σ') : hv_CI l (hv_e1 e) 5 m_X9_lost [.ref 0, .int x] σ Φ := by
  have hn := hW.1
  refine B_X9_lost _ (x_isMatter x (fun h => ⟨fun q => absurd rfl q, fun _ => ?_⟩) (fun m hm hx => ⟨fun _ => ?_, fun q => absurd q (by decide)⟩))
  · have := k σ (XF.refl σ); rw [an1_out (by omega) h] at this; exact this
  · subst hx
    rw [hR.1.2.1]
    refine x_lay (S := 0) (gt := none) hR hm hW hW.2.1 (by decide) gtW0 (fun σ1 hX hB hg => ?_)
    have hR1 := hR.of hX
    have hg2 : spG σ1 (fun a b => if a < D 0 0 then GX D hb m (D 0 1) 0 none a b else 0) 0 := hg
    refine x_reaching (rsp_of hn hR1.1.1 hg2) hg2.2.1 (fun R hRl hRb => ?_)
    have := k σ1 hX.w
    rw [an1_in (by omega) hm] at this
    rw [hB.2.2.1, mns_I]
    have p8 : 2 ^ D 0 0 ≤ 2 ^ 8 := Nat.pow_le_pow_right (by decide) hn
    have eL : mns (2 ^ D 0 0 - 1) R = lstM D hb m := by
      refine tb_ext (n := D 0 0) (mns_lt (by have := Nat.two_pow_pos (D 0 0); omega) R) (msk_lt _ _) (fun a ha => ?_)
      unfold lstM
      rw [mns_b (by omega), tb_full, msk_bit]
      have h1 : hrd (D 0 0) (GX D hb m (D 0 1) 0 none) a = R.testBit a := by
        rw [Bool.eq_iff_iff]
        exact bo_t.trans (hRb a ha).symm
      rw [h1]
    rw [eL]
    exact this
theorem x_surest {Φ : Int32 → hv_S → Prop} (hR : RX D hb It σ) (hW : hWF D) (x : Int32) (k : Φ (an1 3 x (fun m => oR (sst (fun a => D 6 (8 * m + a)) (fun _ => true) (D 0 0))) (-1)) σ) : hv_CI l (hv_e1 e) 2 m_X9_surest [.ref 0, .int x] σ Φ := by
  have hn := hW.1
  refine B_X9_surest _ (x_isMatter x (fun h => ⟨fun q => absurd rfl q, fun _ => ?_⟩) (fun m hm hx => ⟨fun _ => ?_, fun q => absurd q (by decide)⟩))
  · rw [an1_out (by omega) h] at k; exact k
  · subst hx
    rw [an1_in (by omega) hm] at k
    have hone : ((1 : Int32) <<< (σ.1 1 7 &&& 31)) - 1 = nI (2 ^ D 0 0 - 1) := by
      rw [hR.1.1, one_shl (by omega), show (1 : Int32) = nI 1 from rfl, pk_sub (Nat.two_pow_pos _)]
    have p8 : 2 ^ D 0 0 ≤ 2 ^ 8 := Nat.pow_le_pow_right (by decide) hn
    rw [hone]
    refine x_surestOf hR hW hm (by omega) ?_
    rw [sst_congr (ok' := fun _ => true) (fun i hi => by rw [tb_full]; simp [hi])]
    have eo : ∀ o : Option Nat, oI o = oR o := fun o => by cases o <;> rfl
    rw [eo]
    exact k
end Q
