-- THE LAW: more rows, its loop's frame, and halls counted
section LM
variable {l : Launch} {e : hv_Ev} {A1 A2 : Nat → Prop} {b L : Nat} {xs : Nat → Int32} {cells slots pc : Nat} {lo : List (Nat × Value)} {st : List Value} {σ1 σ2 : hv_S}
theorem Y_isub {x y : Int32} (hd : decode code pc = .ok (.isub, 1)) (k : hv_LT l e A1 A2 b L xs cells slots (pc + 1) lo (.int (x - y) :: st) σ1 σ2) : hv_LT l e A1 A2 b L xs cells slots pc lo (.int y :: .int x :: st) σ1 σ2 := by
  intro p ee s m below meth c H locs ls h0 h1 h2 h3 h4 h5 h6 h7 h8 hl
  exact lv_isub h0.1 h0.2.1 hd (k p ee s m below meth c H locs ls h0 h1 h2 h3 h4 h5 h6 h7 h8 hl)
theorem Y_iand {x y : Int32} (hd : decode code pc = .ok (.iand, 1)) (k : hv_LT l e A1 A2 b L xs cells slots (pc + 1) lo (.int (x &&& y) :: st) σ1 σ2) : hv_LT l e A1 A2 b L xs cells slots pc lo (.int y :: .int x :: st) σ1 σ2 := by
  intro p ee s m below meth c H locs ls h0 h1 h2 h3 h4 h5 h6 h7 h8 hl
  exact lv_iand h0.1 h0.2.1 hd (k p ee s m below meth c H locs ls h0 h1 h2 h3 h4 h5 h6 h7 h8 hl)
theorem Y_tabOut {dflt lw hw : Int} {offs : Array Int} {len : Nat} {x : Int32} {tgt : Nat} (hd : decode code pc = .ok (.tableswitch dflt lw hw offs, len)) (h : x.toInt < lw ∨ hw < x.toInt) (ht : (pc : Int) + dflt = (tgt : Int)) (k : hv_LT l e A1 A2 b L xs cells slots tgt lo st σ1 σ2) : hv_LT l e A1 A2 b L xs cells slots pc lo (.int x :: st) σ1 σ2 := by
  intro p ee s m below meth c H locs ls h0 h1 h2 h3 h4 h5 h6 h7 h8 hl
  exact lv_tableOut h0.1 h0.2.1 hd h ht (k p ee s m below meth c H locs ls h0 h1 h2 h3 h4 h5 h6 h7 h8 hl)
theorem Y_tabIn {dflt lw hw : Int} {offs : Array Int} {len : Nat} {x : Int32} {off : Int} {tgt : Nat} (hd : decode code pc = .ok (.tableswitch dflt lw hw offs, len)) (z1 : ¬ x.toInt < lw) (z2 : ¬ hw < x.toInt) (ho : offs[(x.toInt - lw).toNat]? = some off) (ht : (pc : Int) + off = (tgt : Int)) (k : hv_LT l e A1 A2 b L xs cells slots tgt lo st σ1 σ2) : hv_LT l e A1 A2 b L xs cells slots pc lo (.int x :: st) σ1 σ2 := by
  intro p ee s m below meth c H locs ls h0 h1 h2 h3 h4 h5 h6 h7 h8 hl
  exact lv_tableIn h0.1 h0.2.1 hd z1 z2 ho ht (k p ee s m below meth c H locs ls h0 h1 h2 h3 h4 h5 h6 h7 h8 hl)
theorem Y_ifeq {x : Int32} {off : Int} {tgt : Nat} (hd : decode code pc = .ok (.ifCond .eq off, 3)) (ht : (pc : Int) + off = (tgt : Int)) (kt : x = 0 → hv_LT l e A1 A2 b L xs cells slots tgt lo st σ1 σ2) (kf : ¬ x = 0 → hv_LT l e A1 A2 b L xs cells slots (pc + 3) lo st σ1 σ2) : hv_LT l e A1 A2 b L xs cells slots pc lo (.int x :: st) σ1 σ2 := by
  intro p ee s m below meth c H locs ls h0 h1 h2 h3 h4 h5 h6 h7 h8 hl
  exact lv_if_eq h0.1 h0.2.1 hd ht (fun z => kt z p ee s m below meth c H locs ls h0 h1 h2 h3 h4 h5 h6 h7 h8 hl) (fun z => kf z p ee s m below meth c H locs ls h0 h1 h2 h3 h4 h5 h6 h7 h8 hl)
theorem Y_ieq {x : Int32} {off : Int} {tgt : Nat} (hd : decode code pc = .ok (.if_icmp .eq off, 3)) (ht : (pc : Int) + off = (tgt : Int)) (k : hv_LT l e A1 A2 b L xs cells slots tgt lo st σ1 σ2) : hv_LT l e A1 A2 b L xs cells slots pc lo (.int x :: .int x :: st) σ1 σ2 := by
  intro p ee s m below meth c H locs ls h0 h1 h2 h3 h4 h5 h6 h7 h8 hl
  exact lv_icmp_eq h0.1 h0.2.1 hd ht (fun _ => k p ee s m below meth c H locs ls h0 h1 h2 h3 h4 h5 h6 h7 h8 hl) (fun z => absurd rfl z)
theorem Y_igt {x y : Int32} {off : Int} {tgt : Nat} (hd : decode code pc = .ok (.if_icmp .gt off, 3)) (ht : (pc : Int) + off = (tgt : Int)) (kt : y < x → hv_LT l e A1 A2 b L xs cells slots tgt lo st σ1 σ2) (kf : ¬ y < x → hv_LT l e A1 A2 b L xs cells slots (pc + 3) lo st σ1 σ2) : hv_LT l e A1 A2 b L xs cells slots pc lo (.int y :: .int x :: st) σ1 σ2 := by
  intro p ee s m below meth c H locs ls h0 h1 h2 h3 h4 h5 h6 h7 h8 hl
  exact lv_icmp_gt h0.1 h0.2.1 hd ht (fun z => kt z p ee s m below meth c H locs ls h0 h1 h2 h3 h4 h5 h6 h7 h8 hl) (fun z => kf z p ee s m below meth c H locs ls h0 h1 h2 h3 h4 h5 h6 h7 h8 hl)
/-- two longs that are the same -/
theorem Y_leq {x : Int64} {off : Int} {tgt : Nat} (hd : decode code pc = .ok (.lcmp, 1)) (hd2 : decode code (pc + 1) = .ok (.ifCond .eq off, 3)) (ht : ((pc + 1 : Nat) : Int) + off = (tgt : Int)) (k : hv_LT l e A1 A2 b L xs cells slots tgt lo st σ1 σ2) : hv_LT l e A1 A2 b L xs cells slots pc lo (.long x :: .long x :: st) σ1 σ2 := by
  intro p ee s m below meth c H locs ls h0 h1 h2 h3 h4 h5 h6 h7 h8 hl
  have hx : lg_cmp x x = 0 := by
    unfold lg_cmp
    rw [if_neg (fun z : x < x => absurd z (by rw [Int64.lt_iff_toInt_lt]; omega)), if_pos rfl]
  refine W.lcmp h0.1 h0.2.1 hd ?_
  rw [hx]
  exact Y_ifeq hd2 ht (fun _ => k) (fun z => absurd rfl z) p ee s m below meth c H locs ls h0 h1 h2 h3 h4 h5 h6 h7 h8 hl
theorem Y_i2l {x : Int32} (hd : decode code pc = .ok (.i2l, 1)) (k : hv_LT l e A1 A2 b L xs cells slots (pc + 1) lo (.long x.toInt64 :: st) σ1 σ2) : hv_LT l e A1 A2 b L xs cells slots pc lo (.int x :: st) σ1 σ2 := by
  intro p ee s m below meth c H locs ls h0 h1 h2 h3 h4 h5 h6 h7 h8 hl
  exact lv_i2l h0.1 h0.2.1 hd rfl (k p ee s m below meth c H locs ls h0 h1 h2 h3 h4 h5 h6 h7 h8 hl)
theorem Y_lshl {x : Int64} {y : Int32} (hd : decode code pc = .ok (.lshl, 1)) (k : hv_LT l e A1 A2 b L xs cells slots (pc + 1) lo (.long (x <<< (y.toInt64 &&& 63)) :: st) σ1 σ2) : hv_LT l e A1 A2 b L xs cells slots pc lo (.int y :: .long x :: st) σ1 σ2 := by
  intro p ee s m below meth c H locs ls h0 h1 h2 h3 h4 h5 h6 h7 h8 hl
  exact lv_lshl h0.1 h0.2.1 hd rfl (k p ee s m below meth c H locs ls h0 h1 h2 h3 h4 h5 h6 h7 h8 hl)
theorem Y_land {x y : Int64} (hd : decode code pc = .ok (.land, 1)) (k : hv_LT l e A1 A2 b L xs cells slots (pc + 1) lo (.long (x &&& y) :: st) σ1 σ2) : hv_LT l e A1 A2 b L xs cells slots pc lo (.long y :: .long x :: st) σ1 σ2 := by
  intro p ee s m below meth c H locs ls h0 h1 h2 h3 h4 h5 h6 h7 h8 hl
  exact lv_land h0.1 h0.2.1 hd (k p ee s m below meth c H locs ls h0 h1 h2 h3 h4 h5 h6 h7 h8 hl)
theorem Y_lor {x y : Int64} (hd : decode code pc = .ok (.lor, 1)) (k : hv_LT l e A1 A2 b L xs cells slots (pc + 1) lo (.long (x ||| y) :: st) σ1 σ2) : hv_LT l e A1 A2 b L xs cells slots pc lo (.long y :: .long x :: st) σ1 σ2 := by
  intro p ee s m below meth c H locs ls h0 h1 h2 h3 h4 h5 h6 h7 h8 hl
  exact lv_lor h0.1 h0.2.1 hd (k p ee s m below meth c H locs ls h0 h1 h2 h3 h4 h5 h6 h7 h8 hl)
theorem Y_ldc2 {i : Nat} {v : Int64} (hd : decode code pc = .ok (.ldc2_w i, 3)) (hw : Cond.constantLong RL i v ∈ hv_all) (k : hv_LT l e A1 A2 b L xs cells slots (pc + 3) lo (.long v :: st) σ1 σ2) : hv_LT l e A1 A2 b L xs cells slots pc lo st σ1 σ2 := by
  intro p ee s m below meth c H locs ls h0 h1 h2 h3 h4 h5 h6 h7 h8 hl
  exact lv_ldc2 h0.1 h0.2.1 h0.2.2.2.2.1 (h0.2.2.2.2.2.1 _ (Y_tbl _ hw)) hd (k p ee s m below meth c H locs ls h0 h1 h2 h3 h4 h5 h6 h7 h8 hl)
theorem Y_iinc {i : Nat} {n : Int} {x v : Int32} {lo' : List (Nat × Value)} (hd : decode code pc = .ok (.iinc i n, 3)) (j : Nat) (hj : lo[j]? = some (i, .int x)) (hv : x + Int32.ofInt n = v) (hn : i < 4) (hq : (i, Value.int v) :: lo.filter (fun q => !(q.1 == i) && !(q.1 + 1 == i && q.2.category == 2)) = lo') (k : hv_LT l e A1 A2 b L xs cells slots (pc + 3) lo' st σ1 σ2) : hv_LT l e A1 A2 b L xs cells slots pc lo st σ1 σ2 := by
  intro p ee s m below meth c H locs ls h0 h1 h2 h3 h4 h5 h6 h7 h8 hl
  exact lv_iinc h0.1 h0.2.1 hd hl hj hv hn hq (fun ls' hl' => k p ee s m below meth c H locs ls' h0 h1 h2 h3 h4 h5 h6 h7 h8 hl')
/-- the end: 1 -/
theorem Y_end (hd : decode code pc = .ok (.ireturn, 1)) (hcs : cells ≤ 600000 ∧ slots ≤ 7302249) : hv_LT l e A1 A2 b L xs cells slots pc lo [.int 1] σ1 σ2 := by
  intro p ee s m below meth c H locs ls h0 h1 h2 h3 h4 h5 h6 h7 h8 hl
  refine W.widen hcs.1 hcs.2 ?_
  exact W.forget (locs := []) (fun q hq => (h2 _).mp (h8.2.2 q hq)) (lw_ret h0.1 h0.2.1 h0.2.2.1 h0.2.2.2.2.2.2.2.2.1 hd)
/-- not 0 -/
theorem Y_bool {x : Int32} {o1 o2 : Int} {t1 t2 : Nat} (hd : decode code pc = .ok (.ifCond .eq o1, 3)) (h1 : (pc : Int) + o1 = (t1 : Int)) (d1 : decode code (pc + 3) = .ok (.iconst 1, 1)) (d2 : decode code (pc + 3 + 1) = .ok (.goto o2, 3)) (h2 : ((pc + 3 + 1 : Nat) : Int) + o2 = (t2 : Int)) (d3 : decode code t1 = .ok (.iconst 0, 1)) (h3 : t1 + 1 = t2) (k : hv_LT l e A1 A2 b L xs cells slots t2 lo (.int (if x = 0 then 0 else 1) :: st) σ1 σ2) : hv_LT l e A1 A2 b L xs cells slots pc lo (.int x :: st) σ1 σ2 := by
  refine Y_ifeq hd h1 (fun z => ?_) (fun z => ?_)
  · refine Y_iconst (v := 0) d3 (by decide) ?_
    rw [h3]
    rw [if_pos z] at k
    exact k
  · refine Y_iconst (v := 1) d1 (by decide) ?_
    refine Y_goto d2 h2 ?_
    rw [if_neg z] at k
    exact k
end LM
/-- the frame at the loop: the script, the two, the place -/
def lwL (b : Nat) (e : hv_Ev) (r : Nat) : List (Nat × Value) := [(3, .int (nI (6 * r))), (2, .ref (e.1 60)), (1, .ref (e.1 0)), (0, .ref b)]
theorem lw_sub6 : ∀ L, L < 385 → (nI L - 6).toInt = (L : Int) - 6 := by decide +kernel
theorem lw_and63 (x : Int32) : 0 ≤ (x &&& 63).toInt := by
  have h : (x &&& 63).toInt = ((x &&& 63).toBitVec.toNat : Int) := by
    show (x &&& 63).toBitVec.toInt = _
    refine BitVec.toInt_eq_toNat_of_lt ?_
    rw [Int32.toBitVec_and, BitVec.toNat_and]
    have : x.toBitVec.toNat &&& (63 : Int32).toBitVec.toNat ≤ 63 := Nat.and_le_right
    omega
  rw [h]
  omega
section LA
variable {l : Launch} {e : hv_Ev} {A1 A2 : Nat → Prop} {b L : Nat} {xs : Nat → Int32} {cells slots pc r : Nat} {st : List Value} {σ1 σ2 : hv_S}
/-- a number of the round -/
theorem Y_arg (hr : 6 * r + 6 ≤ L ∧ L ≤ 384) {n : Int} (j : Nat) (hn : Int32.ofInt n = nI j) (hj : j ≤ 5) (d1 : decode code pc = .ok (.aload_n 0, 1)) (d2 : decode code (pc + 1) = .ok (.iload_n 3, 1)) (d3 : decode code (pc + 1 + 1) = .ok (.iconst n, 1)) (d4 : decode code (pc + 1 + 1 + 1) = .ok (.iadd, 1)) (d5 : decode code (pc + 1 + 1 + 1 + 1) = .ok (.iaload, 1))
    (k : hv_LT l e A1 A2 b L xs cells slots (pc + 1 + 1 + 1 + 1 + 1) (lwL b e r) (.int (xs (6 * r + j)) :: st) σ1 σ2) : hv_LT l e A1 A2 b L xs cells slots pc (lwL b e r) st σ1 σ2 := by
  refine Y_aload_n d1 rfl 3 rfl ?_
  refine Y_iload_n d2 rfl 0 rfl ?_
  refine Y_iconst d3 hn ?_
  refine Y_iadd d4 ?_
  rw [nI_add]
  refine Y_scr d5 (nI_in (by omega) (by omega)) ?_
  rw [nI_clamp (by omega)]
  exact k
end LA
-- HALLS: only a hall makes one more
theorem an1_P {α : Type} {P : α → Prop} {n : Nat} {x : Int32} {f : Nat → α} {o : α} (h : ∀ a, P (f a)) (h0 : P o) : P (an1 n x f o) := by
  unfold an1
  split
  · exact h0
  · exact h _
theorem aU_02 (D : hD) {a b v : Nat} (h : ¬ (a = 0 ∧ b = 2)) : aU D a b v 0 2 = D 0 2 := if_neg (fun z => h ⟨z.1.symm, z.2.symm⟩)
theorem rnD_02 (D : hD) (c k a b x : Nat) : rnD D c k a b x 0 2 = D 0 2 := by
  unfold rnD
  rw [aU_02 _ (by omega), aU_02 _ (by omega), aU_02 _ (by omega), aU_02 _ (by omega), aU_02 _ (by omega)]
section HN
variable {D : hD} {hb : hB} {It : hT}
theorem mbR_n : (mbR D).2 0 2 = D 0 2 := by
  unfold mbR
  split
  · simp [aU_02]
  · rfl
theorem thR_n (x y z w : Int32) : (thR D x y z w).2 0 2 = D 0 2 := by
  unfold thR
  refine an1_P (P := fun q : Int32 × hD => q.2 0 2 = D 0 2) (fun a => an1_P (P := fun q : Int32 × hD => q.2 0 2 = D 0 2) (fun m => ?_) rfl) rfl
  split
  · rfl
  · simp [th_n]
theorem hdR_n (x y z : Int32) : (hdR D x y z).2 0 2 = D 0 2 := by
  unfold hdR
  refine an1_P (P := fun q : Int32 × hD => q.2 0 2 = D 0 2) (fun a => an1_P (P := fun q : Int32 × hD => q.2 0 2 = D 0 2) (fun m => ?_) rfl) rfl
  split
  · simp only [rnD_02]
  · rfl
theorem gvR_n (x y z : Int32) : (gvR D x y z).2 0 2 = D 0 2 := by
  unfold gvR
  refine an1_P (P := fun q : Int32 × hD => q.2 0 2 = D 0 2) (fun a => an1_P (P := fun q : Int32 × hD => q.2 0 2 = D 0 2) (fun m => an1_P (P := fun q : Int32 × hD => q.2 0 2 = D 0 2) (fun b => ?_) rfl) rfl) rfl
  split
  · rfl
  · simp only [rnD_02]
theorem nmR_n (x y z w v : Int32) : (nmR D x y z w v).2 0 2 = D 0 2 := by
  unfold nmR
  refine an1_P (P := fun q : Int32 × hD => q.2 0 2 = D 0 2) (fun a => an1_P (P := fun q : Int32 × hD => q.2 0 2 = D 0 2) (fun m => an1_P (P := fun q : Int32 × hD => q.2 0 2 = D 0 2) (fun b => an1_P (P := fun q : Int32 × hD => q.2 0 2 = D 0 2) (fun c => ?_) rfl) rfl) rfl) rfl
  split
  · rfl
  · split <;> simp only [rnD_02]
theorem bkR_n (x y z : Int32) : (bkR D x y z).2 0 2 = D 0 2 := by
  unfold bkR
  refine an1_P (P := fun q : Int32 × hD => q.2 0 2 = D 0 2) (fun a => an1_P (P := fun q : Int32 × hD => q.2 0 2 = D 0 2) (fun m => ?_) rfl) rfl
  split
  · rfl
  · simp [aU_02]
theorem psR_n (x : Int32) : (psR D x).2 0 2 = D 0 2 := by
  unfold psR
  split
  · rfl
  · simp [aU_02]
theorem feL_n (x : Int32) : ∀ k D, feL x k D 0 2 = D 0 2 := by
  intro k
  induction k with
  | zero => intro D; rfl
  | succ k ih =>
    intro D
    exact (ih _).trans (ap_n D _ (i := 0) (j := 2) (by decide) (Or.inr (by decide)))
theorem feR_n (x y : Int32) : (feR D x y).2 0 2 = D 0 2 := by
  unfold feR
  split
  · rfl
  · split
    · rfl
    · exact feL_n _ _ _
theorem stD_n (m w : Nat) : stD D m w 0 2 = D 0 2 := by
  unfold stD
  split <;> simp only [rnD_02]
theorem stN_n (m : Nat) : ∀ f D, (stN hb m f D).2 0 2 = D 0 2 := by
  intro f
  induction f with
  | zero => intro D; rfl
  | succ f ih =>
    intro D
    unfold stN
    cases hw : wish D hb m with
    | none => rfl
    | some w => exact (ih _).trans (stD_n _ _)
theorem seR_n (x : Int32) : (seR D hb x).2 0 2 = D 0 2 := by
  unfold seR
  exact an1_P (P := fun q : Int32 × hD => q.2 0 2 = D 0 2) (fun m => stN_n m 12 D) rfl
theorem acR_n (x y z w : Int32) : (acR D x y z w).2 0 2 = D 0 2 := by
  unfold acR
  refine an1_P (P := fun q : Int32 × hD => q.2 0 2 = D 0 2) (fun a => an1_P (P := fun q : Int32 × hD => q.2 0 2 = D 0 2) (fun m => ?_) rfl) rfl
  repeat' split
  all_goals rfl
theorem tpD_02 (t s n : Nat) : tpD D t s n 0 2 = D 0 2 := by
  unfold tpD
  rw [aU_02 _ (by omega), aU_02 _ (by omega)]
theorem tpR_n (x y z : Int32) : (tpR D It x y z).2.1 0 2 = D 0 2 := by
  unfold tpR
  refine an1_P (P := fun q : Int32 × hD × hT => q.2.1 0 2 = D 0 2) (fun t => ?_) rfl
  repeat' split
  all_goals first | rfl | exact tpD_02 _ _ _
end HN
