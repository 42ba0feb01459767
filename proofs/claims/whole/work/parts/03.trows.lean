-- THE ROWS: an instruction each
section T
variable {l : Launch} {E : hv_E} {R : Room} {cells slots : Nat} {M : hv_M} {Ψ : State → Array Value → Prop} {Z : hv_Zt} {pc : Nat} {lo : List (Nat × Value)} {st : List Value} {σ : hv_S}

theorem T_iadd {x y : Int32} (hd : decode M.2.1 pc = .ok (.iadd, 1)) (k : hv_TW l E R cells slots M Ψ Z (pc + 1) lo (.int (x + y) :: st) σ) : hv_TW l E R cells slots M Ψ Z pc lo (.int y :: .int x :: st) σ := by
  intro p e s m args below meth c H locs ls hf hΨ hK hP hS hl
  exact lv_iadd hf.1 hf.2.1 hd (k p e s m args below meth c H locs ls hf hΨ hK hP hS hl)
theorem T_isub {x y : Int32} (hd : decode M.2.1 pc = .ok (.isub, 1)) (k : hv_TW l E R cells slots M Ψ Z (pc + 1) lo (.int (x - y) :: st) σ) : hv_TW l E R cells slots M Ψ Z pc lo (.int y :: .int x :: st) σ := by
  intro p e s m args below meth c H locs ls hf hΨ hK hP hS hl
  exact lv_isub hf.1 hf.2.1 hd (k p e s m args below meth c H locs ls hf hΨ hK hP hS hl)
theorem T_imul {x y : Int32} (hd : decode M.2.1 pc = .ok (.imul, 1)) (k : hv_TW l E R cells slots M Ψ Z (pc + 1) lo (.int (x * y) :: st) σ) : hv_TW l E R cells slots M Ψ Z pc lo (.int y :: .int x :: st) σ := by
  intro p e s m args below meth c H locs ls hf hΨ hK hP hS hl
  exact lv_imul hf.1 hf.2.1 hd (k p e s m args below meth c H locs ls hf hΨ hK hP hS hl)
theorem T_iand {x y : Int32} (hd : decode M.2.1 pc = .ok (.iand, 1)) (k : hv_TW l E R cells slots M Ψ Z (pc + 1) lo (.int (x &&& y) :: st) σ) : hv_TW l E R cells slots M Ψ Z pc lo (.int y :: .int x :: st) σ := by
  intro p e s m args below meth c H locs ls hf hΨ hK hP hS hl
  exact lv_iand hf.1 hf.2.1 hd (k p e s m args below meth c H locs ls hf hΨ hK hP hS hl)
theorem T_ior {x y : Int32} (hd : decode M.2.1 pc = .ok (.ior, 1)) (k : hv_TW l E R cells slots M Ψ Z (pc + 1) lo (.int (x ||| y) :: st) σ) : hv_TW l E R cells slots M Ψ Z pc lo (.int y :: .int x :: st) σ := by
  intro p e s m args below meth c H locs ls hf hΨ hK hP hS hl
  exact lv_ior hf.1 hf.2.1 hd (k p e s m args below meth c H locs ls hf hΨ hK hP hS hl)
theorem T_ixor {x y : Int32} (hd : decode M.2.1 pc = .ok (.ixor, 1)) (k : hv_TW l E R cells slots M Ψ Z (pc + 1) lo (.int (x ^^^ y) :: st) σ) : hv_TW l E R cells slots M Ψ Z pc lo (.int y :: .int x :: st) σ := by
  intro p e s m args below meth c H locs ls hf hΨ hK hP hS hl
  exact lv_ixor hf.1 hf.2.1 hd (k p e s m args below meth c H locs ls hf hΨ hK hP hS hl)
theorem T_ladd {x y : Int64} (hd : decode M.2.1 pc = .ok (.ladd, 1)) (k : hv_TW l E R cells slots M Ψ Z (pc + 1) lo (.long (x + y) :: st) σ) : hv_TW l E R cells slots M Ψ Z pc lo (.long y :: .long x :: st) σ := by
  intro p e s m args below meth c H locs ls hf hΨ hK hP hS hl
  exact lv_ladd hf.1 hf.2.1 hd (k p e s m args below meth c H locs ls hf hΨ hK hP hS hl)
theorem T_lsub {x y : Int64} (hd : decode M.2.1 pc = .ok (.lsub, 1)) (k : hv_TW l E R cells slots M Ψ Z (pc + 1) lo (.long (x - y) :: st) σ) : hv_TW l E R cells slots M Ψ Z pc lo (.long y :: .long x :: st) σ := by
  intro p e s m args below meth c H locs ls hf hΨ hK hP hS hl
  exact lv_lsub hf.1 hf.2.1 hd (k p e s m args below meth c H locs ls hf hΨ hK hP hS hl)
theorem T_lmul {x y : Int64} (hd : decode M.2.1 pc = .ok (.lmul, 1)) (k : hv_TW l E R cells slots M Ψ Z (pc + 1) lo (.long (x * y) :: st) σ) : hv_TW l E R cells slots M Ψ Z pc lo (.long y :: .long x :: st) σ := by
  intro p e s m args below meth c H locs ls hf hΨ hK hP hS hl
  exact lv_lmul hf.1 hf.2.1 hd (k p e s m args below meth c H locs ls hf hΨ hK hP hS hl)
theorem T_land {x y : Int64} (hd : decode M.2.1 pc = .ok (.land, 1)) (k : hv_TW l E R cells slots M Ψ Z (pc + 1) lo (.long (x &&& y) :: st) σ) : hv_TW l E R cells slots M Ψ Z pc lo (.long y :: .long x :: st) σ := by
  intro p e s m args below meth c H locs ls hf hΨ hK hP hS hl
  exact lv_land hf.1 hf.2.1 hd (k p e s m args below meth c H locs ls hf hΨ hK hP hS hl)
theorem T_lor {x y : Int64} (hd : decode M.2.1 pc = .ok (.lor, 1)) (k : hv_TW l E R cells slots M Ψ Z (pc + 1) lo (.long (x ||| y) :: st) σ) : hv_TW l E R cells slots M Ψ Z pc lo (.long y :: .long x :: st) σ := by
  intro p e s m args below meth c H locs ls hf hΨ hK hP hS hl
  exact lv_lor hf.1 hf.2.1 hd (k p e s m args below meth c H locs ls hf hΨ hK hP hS hl)
theorem T_idiv {x y : Int32} (hd : decode M.2.1 pc = .ok (.idiv, 1)) (hne : ¬ y = 0) (k : hv_TW l E R cells slots M Ψ Z (pc + 1) lo (.int (x / y) :: st) σ) : hv_TW l E R cells slots M Ψ Z pc lo (.int y :: .int x :: st) σ := by
  intro p e s m args below meth c H locs ls hf hΨ hK hP hS hl
  exact lv_idiv hf.1 hf.2.1 hd hne (k p e s m args below meth c H locs ls hf hΨ hK hP hS hl)
theorem T_ldiv {x y : Int64} (hd : decode M.2.1 pc = .ok (.ldiv, 1)) (hne : ¬ y = 0) (k : hv_TW l E R cells slots M Ψ Z (pc + 1) lo (.long (x / y) :: st) σ) : hv_TW l E R cells slots M Ψ Z pc lo (.long y :: .long x :: st) σ := by
  intro p e s m args below meth c H locs ls hf hΨ hK hP hS hl
  exact lv_ldiv hf.1 hf.2.1 hd hne (k p e s m args below meth c H locs ls hf hΨ hK hP hS hl)
theorem T_irem {x y : Int32} (hd : decode M.2.1 pc = .ok (.irem, 1)) (hne : ¬ y = 0) (k : hv_TW l E R cells slots M Ψ Z (pc + 1) lo (.int (x - x / y * y) :: st) σ) : hv_TW l E R cells slots M Ψ Z pc lo (.int y :: .int x :: st) σ := by
  intro p e s m args below meth c H locs ls hf hΨ hK hP hS hl
  exact lv_irem hf.1 hf.2.1 hd hne (k p e s m args below meth c H locs ls hf hΨ hK hP hS hl)
theorem T_lrem {x y : Int64} (hd : decode M.2.1 pc = .ok (.lrem, 1)) (hne : ¬ y = 0) (k : hv_TW l E R cells slots M Ψ Z (pc + 1) lo (.long (x - x / y * y) :: st) σ) : hv_TW l E R cells slots M Ψ Z pc lo (.long y :: .long x :: st) σ := by
  intro p e s m args below meth c H locs ls hf hΨ hK hP hS hl
  exact lv_lrem hf.1 hf.2.1 hd hne (k p e s m args below meth c H locs ls hf hΨ hK hP hS hl)
theorem T_ishl {x y : Int32} (hd : decode M.2.1 pc = .ok (.ishl, 1)) (k : hv_TW l E R cells slots M Ψ Z (pc + 1) lo (.int (x <<< (y &&& 31)) :: st) σ) : hv_TW l E R cells slots M Ψ Z pc lo (.int y :: .int x :: st) σ := by
  intro p e s m args below meth c H locs ls hf hΨ hK hP hS hl
  exact lv_ishl hf.1 hf.2.1 hd (k p e s m args below meth c H locs ls hf hΨ hK hP hS hl)
theorem T_ishr {x y : Int32} (hd : decode M.2.1 pc = .ok (.ishr, 1)) (k : hv_TW l E R cells slots M Ψ Z (pc + 1) lo (.int (x >>> (y &&& 31)) :: st) σ) : hv_TW l E R cells slots M Ψ Z pc lo (.int y :: .int x :: st) σ := by
  intro p e s m args below meth c H locs ls hf hΨ hK hP hS hl
  exact lv_ishr hf.1 hf.2.1 hd (k p e s m args below meth c H locs ls hf hΨ hK hP hS hl)
theorem T_iushr {x y : Int32} (hd : decode M.2.1 pc = .ok (.iushr, 1)) (k : hv_TW l E R cells slots M Ψ Z (pc + 1) lo (.int (x.toUInt32 >>> (y.toUInt32 &&& Int32.toUInt32 31)).toInt32 :: st) σ) : hv_TW l E R cells slots M Ψ Z pc lo (.int y :: .int x :: st) σ := by
  intro p e s m args below meth c H locs ls hf hΨ hK hP hS hl
  exact lv_iushr hf.1 hf.2.1 hd rfl (k p e s m args below meth c H locs ls hf hΨ hK hP hS hl)
theorem T_ineg {x : Int32} (hd : decode M.2.1 pc = .ok (.ineg, 1)) (k : hv_TW l E R cells slots M Ψ Z (pc + 1) lo (.int (-x) :: st) σ) : hv_TW l E R cells slots M Ψ Z pc lo (.int x :: st) σ := by
  intro p e s m args below meth c H locs ls hf hΨ hK hP hS hl
  exact lv_ineg hf.1 hf.2.1 hd (k p e s m args below meth c H locs ls hf hΨ hK hP hS hl)
theorem T_i2l {x : Int32} (hd : decode M.2.1 pc = .ok (.i2l, 1)) (k : hv_TW l E R cells slots M Ψ Z (pc + 1) lo (.long x.toInt64 :: st) σ) : hv_TW l E R cells slots M Ψ Z pc lo (.int x :: st) σ := by
  intro p e s m args below meth c H locs ls hf hΨ hK hP hS hl
  exact lv_i2l hf.1 hf.2.1 hd rfl (k p e s m args below meth c H locs ls hf hΨ hK hP hS hl)
theorem T_l2i {x : Int64} (hd : decode M.2.1 pc = .ok (.l2i, 1)) (k : hv_TW l E R cells slots M Ψ Z (pc + 1) lo (.int x.toInt32 :: st) σ) : hv_TW l E R cells slots M Ψ Z pc lo (.long x :: st) σ := by
  intro p e s m args below meth c H locs ls hf hΨ hK hP hS hl
  exact lv_l2i hf.1 hf.2.1 hd rfl (k p e s m args below meth c H locs ls hf hΨ hK hP hS hl)
theorem T_i2b {x : Int32} (hd : decode M.2.1 pc = .ok (.i2b, 1)) (k : hv_TW l E R cells slots M Ψ Z (pc + 1) lo (.int x.toInt8.toInt32 :: st) σ) : hv_TW l E R cells slots M Ψ Z pc lo (.int x :: st) σ := by
  intro p e s m args below meth c H locs ls hf hΨ hK hP hS hl
  exact lv_i2b hf.1 hf.2.1 hd rfl (k p e s m args below meth c H locs ls hf hΨ hK hP hS hl)
theorem T_i2s {x : Int32} (hd : decode M.2.1 pc = .ok (.i2s, 1)) (k : hv_TW l E R cells slots M Ψ Z (pc + 1) lo (.int x.toInt16.toInt32 :: st) σ) : hv_TW l E R cells slots M Ψ Z pc lo (.int x :: st) σ := by
  intro p e s m args below meth c H locs ls hf hΨ hK hP hS hl
  exact lv_i2s hf.1 hf.2.1 hd rfl (k p e s m args below meth c H locs ls hf hΨ hK hP hS hl)
theorem T_i2c {x : Int32} (hd : decode M.2.1 pc = .ok (.i2c, 1)) (k : hv_TW l E R cells slots M Ψ Z (pc + 1) lo (.int (x.toUInt32 % 65536).toInt32 :: st) σ) : hv_TW l E R cells slots M Ψ Z pc lo (.int x :: st) σ := by
  intro p e s m args below meth c H locs ls hf hΨ hK hP hS hl
  exact lv_i2c hf.1 hf.2.1 hd rfl (k p e s m args below meth c H locs ls hf hΨ hK hP hS hl)
theorem T_lshl {x : Int64} {y : Int32} (hd : decode M.2.1 pc = .ok (.lshl, 1)) (k : hv_TW l E R cells slots M Ψ Z (pc + 1) lo (.long (x <<< (y.toInt64 &&& 63)) :: st) σ) : hv_TW l E R cells slots M Ψ Z pc lo (.int y :: .long x :: st) σ := by
  intro p e s m args below meth c H locs ls hf hΨ hK hP hS hl
  exact lv_lshl hf.1 hf.2.1 hd rfl (k p e s m args below meth c H locs ls hf hΨ hK hP hS hl)
theorem T_lcmp {x y : Int64} (hd : decode M.2.1 pc = .ok (.lcmp, 1)) (k : hv_TW l E R cells slots M Ψ Z (pc + 1) lo (.int (lg_cmp x y) :: st) σ) : hv_TW l E R cells slots M Ψ Z pc lo (.long y :: .long x :: st) σ := by
  intro p e s m args below meth c H locs ls hf hΨ hK hP hS hl
  exact W.lcmp hf.1 hf.2.1 hd (k p e s m args below meth c H locs ls hf hΨ hK hP hS hl)
theorem T_iconst {n : Int} {v : Int32} (hd : decode M.2.1 pc = .ok (.iconst n, 1)) (hv : Int32.ofInt n = v) (k : hv_TW l E R cells slots M Ψ Z (pc + 1) lo (.int v :: st) σ) : hv_TW l E R cells slots M Ψ Z pc lo st σ := by
  intro p e s m args below meth c H locs ls hf hΨ hK hP hS hl
  exact lv_iconst hf.1 hf.2.1 hd hv (k p e s m args below meth c H locs ls hf hΨ hK hP hS hl)
theorem T_bipush {n : Int} {v : Int32} (hd : decode M.2.1 pc = .ok (.bipush n, 2)) (hv : (Int8.ofInt n).toInt32 = v) (k : hv_TW l E R cells slots M Ψ Z (pc + 2) lo (.int v :: st) σ) : hv_TW l E R cells slots M Ψ Z pc lo st σ := by
  intro p e s m args below meth c H locs ls hf hΨ hK hP hS hl
  exact lv_bipush hf.1 hf.2.1 hd hv (k p e s m args below meth c H locs ls hf hΨ hK hP hS hl)
theorem T_sipush {n : Int} {v : Int32} (hd : decode M.2.1 pc = .ok (.sipush n, 3)) (hv : (Int16.ofInt n).toInt32 = v) (k : hv_TW l E R cells slots M Ψ Z (pc + 3) lo (.int v :: st) σ) : hv_TW l E R cells slots M Ψ Z pc lo st σ := by
  intro p e s m args below meth c H locs ls hf hΨ hK hP hS hl
  exact lv_sipush hf.1 hf.2.1 hd hv (k p e s m args below meth c H locs ls hf hΨ hK hP hS hl)
theorem T_lconst {n : Fin 2} {v : Int64} (hd : decode M.2.1 pc = .ok (.lconst n, 1)) (hv : Int64.ofNat (n : Nat) = v) (k : hv_TW l E R cells slots M Ψ Z (pc + 1) lo (.long v :: st) σ) : hv_TW l E R cells slots M Ψ Z pc lo st σ := by
  intro p e s m args below meth c H locs ls hf hΨ hK hP hS hl
  exact lv_lconst hf.1 hf.2.1 hd hv (k p e s m args below meth c H locs ls hf hΨ hK hP hS hl)
theorem T_ldc {i : Nat} {v : Int32} (hd : decode M.2.1 pc = .ok (.ldc i, 2)) (hw : Cond.constant M.1.cls i v ∈ hv_all) (k : hv_TW l E R cells slots M Ψ Z (pc + 2) lo (.int v :: st) σ) : hv_TW l E R cells slots M Ψ Z pc lo st σ := by
  intro p e s m args below meth c H locs ls hf hΨ hK hP hS hl
  exact lv_ldc hf.1 hf.2.1 hf.2.2.2.1 (hf.2.2.2.2.1 _ (List.mem_cons_of_mem _ hw)) hd (k p e s m args below meth c H locs ls hf hΨ hK hP hS hl)
theorem T_ldc2 {i : Nat} {v : Int64} (hd : decode M.2.1 pc = .ok (.ldc2_w i, 3)) (hw : Cond.constantLong M.1.cls i v ∈ hv_all) (k : hv_TW l E R cells slots M Ψ Z (pc + 3) lo (.long v :: st) σ) : hv_TW l E R cells slots M Ψ Z pc lo st σ := by
  intro p e s m args below meth c H locs ls hf hΨ hK hP hS hl
  exact lv_ldc2 hf.1 hf.2.1 hf.2.2.2.1 (hf.2.2.2.2.1 _ (List.mem_cons_of_mem _ hw)) hd (k p e s m args below meth c H locs ls hf hΨ hK hP hS hl)
theorem hv_lo_get {lo : List (Nat × Value)} {k i : Nat} {v : Value} (h : lo[k]? = some (i, v)) : (hv_lo E lo)[k]? = some (i, hv_cv (hv_al E) v) := by
  unfold hv_lo
  rw [List.getElem?_map, h]
  rfl
def hv_f1 (i : Nat) (q : Nat × Value) : Bool := !(q.1 == i) && !(q.1 + 1 == i && q.2.category == 2)
def hv_f2 (i : Nat) (q : Nat × Value) : Bool := !(q.1 == i) && (!(q.1 == i + 1) && !(q.1 + 1 == i && q.2.category == 2))
theorem hv_lo_f {f : Nat × Value → Bool} (hf : ∀ q : Nat × Value, f (q.1, hv_cv (hv_al E) q.2) = f q) (lo : List (Nat × Value)) : (hv_lo E lo).filter f = hv_lo E (lo.filter f) := by
  induction lo with
  | nil => rfl
  | cons q lo ih =>
    show List.filter f ((q.1, hv_cv (hv_al E) q.2) :: hv_lo E lo) = _
    rw [List.filter_cons, List.filter_cons, hf q]
    cases f q with
    | true => simp only [if_true]; rw [ih]; rfl
    | false => simp only [Bool.false_eq_true, if_false]; exact ih
theorem hv_lo_f1 (i : Nat) (lo : List (Nat × Value)) : (hv_lo E lo).filter (fun q => !(q.1 == i) && !(q.1 + 1 == i && q.2.category == 2)) = hv_lo E (lo.filter (hv_f1 i)) := hv_lo_f (f := hv_f1 i) (fun q => by unfold hv_f1; rw [hv_cv_cat]) lo
theorem hv_lo_f2 (i : Nat) (lo : List (Nat × Value)) : (hv_lo E lo).filter (fun q => !(q.1 == i) && (!(q.1 == i + 1) && !(q.1 + 1 == i && q.2.category == 2))) = hv_lo E (lo.filter (hv_f2 i)) := hv_lo_f (f := hv_f2 i) (fun q => by unfold hv_f2; rw [hv_cv_cat]) lo
theorem T_sub {lo' : List (Nat × Value)} (ks : List Nat) (h : lv_pick lo ks = lo') (k : hv_TW l E R cells slots M Ψ Z pc lo' st σ) : hv_TW l E R cells slots M Ψ Z pc lo st σ := by
  intro p e s m args below meth c H locs ls hf hΨ hK hP hS hl
  refine k p e s m args below meth c H locs ls hf hΨ hK hP hS (lv_sub hl ks ?_)
  rw [← h]
  unfold lv_pick hv_lo
  rw [List.map_filterMap]
  congr 1
  funext i
  rw [List.getElem?_map]
theorem T_iload_n {n : Fin 4} {i : Nat} {x : Int32} (hd : decode M.2.1 pc = .ok (.iload_n n, 1)) (hi : (n : Nat) = i) (j : Nat) (hj : lo[j]? = some (i, .int x)) (k : hv_TW l E R cells slots M Ψ Z (pc + 1) lo (.int x :: st) σ) : hv_TW l E R cells slots M Ψ Z pc lo st σ := by
  intro p e s m args below meth c H locs ls hf hΨ hK hP hS hl
  exact lv_iload_n hf.1 hf.2.1 hd hi (lv_at hl j (hv_lo_get hj)) (k p e s m args below meth c H locs ls hf hΨ hK hP hS hl)
theorem T_iload {i : Nat} {x : Int32} (hd : decode M.2.1 pc = .ok (.iload i, 2)) (j : Nat) (hj : lo[j]? = some (i, .int x)) (k : hv_TW l E R cells slots M Ψ Z (pc + 2) lo (.int x :: st) σ) : hv_TW l E R cells slots M Ψ Z pc lo st σ := by
  intro p e s m args below meth c H locs ls hf hΨ hK hP hS hl
  exact lv_iload hf.1 hf.2.1 hd (lv_at hl j (hv_lo_get hj)) (k p e s m args below meth c H locs ls hf hΨ hK hP hS hl)
theorem T_lload_n {n : Fin 4} {i : Nat} {x : Int64} (hd : decode M.2.1 pc = .ok (.lload_n n, 1)) (hi : (n : Nat) = i) (j : Nat) (hj : lo[j]? = some (i, .long x)) (k : hv_TW l E R cells slots M Ψ Z (pc + 1) lo (.long x :: st) σ) : hv_TW l E R cells slots M Ψ Z pc lo st σ := by
  intro p e s m args below meth c H locs ls hf hΨ hK hP hS hl
  exact lv_lload_n hf.1 hf.2.1 hd hi (lv_at hl j (hv_lo_get hj)) (k p e s m args below meth c H locs ls hf hΨ hK hP hS hl)
theorem T_lload {i : Nat} {x : Int64} (hd : decode M.2.1 pc = .ok (.lload i, 2)) (j : Nat) (hj : lo[j]? = some (i, .long x)) (k : hv_TW l E R cells slots M Ψ Z (pc + 2) lo (.long x :: st) σ) : hv_TW l E R cells slots M Ψ Z pc lo st σ := by
  intro p e s m args below meth c H locs ls hf hΨ hK hP hS hl
  exact lv_lload hf.1 hf.2.1 hd (lv_at hl j (hv_lo_get hj)) (k p e s m args below meth c H locs ls hf hΨ hK hP hS hl)
theorem T_aload_n {n : Fin 4} {i : Nat} {x : Nat} (hd : decode M.2.1 pc = .ok (.aload_n n, 1)) (hi : (n : Nat) = i) (j : Nat) (hj : lo[j]? = some (i, .ref x)) (k : hv_TW l E R cells slots M Ψ Z (pc + 1) lo (.ref x :: st) σ) : hv_TW l E R cells slots M Ψ Z pc lo st σ := by
  intro p e s m args below meth c H locs ls hf hΨ hK hP hS hl
  exact lv_aload_n hf.1 hf.2.1 hd hi (lv_at hl j (hv_lo_get hj)) (k p e s m args below meth c H locs ls hf hΨ hK hP hS hl)
theorem T_aload {i : Nat} {x : Nat} (hd : decode M.2.1 pc = .ok (.aload i, 2)) (j : Nat) (hj : lo[j]? = some (i, .ref x)) (k : hv_TW l E R cells slots M Ψ Z (pc + 2) lo (.ref x :: st) σ) : hv_TW l E R cells slots M Ψ Z pc lo st σ := by
  intro p e s m args below meth c H locs ls hf hΨ hK hP hS hl
  exact lv_aload hf.1 hf.2.1 hd (lv_at hl j (hv_lo_get hj)) (k p e s m args below meth c H locs ls hf hΨ hK hP hS hl)
theorem T_istore_n {n : Fin 4} {i : Nat} {x : Int32} {lo' : List (Nat × Value)} (hd : decode M.2.1 pc = .ok (.istore_n n, 1)) (hi : (n : Nat) = i) (hn : i < M.2.2.1) (hq : (i, .int x) :: lo.filter (hv_f1 i) = lo') (k : hv_TW l E R cells slots M Ψ Z (pc + 1) lo' st σ) : hv_TW l E R cells slots M Ψ Z pc lo (.int x :: st) σ := by
  intro p e s m args below meth c H locs ls hf hΨ hK hP hS hl
  exact lv_istore_n hf.1 hf.2.1 hd hi hl hn (by rw [hv_lo_f1, ← hq]; rfl) (fun ls' hl' => k p e s m args below meth c H locs ls' hf hΨ hK hP hS hl')
theorem T_istore {i : Nat} {x : Int32} {lo' : List (Nat × Value)} (hd : decode M.2.1 pc = .ok (.istore i, 2)) (hn : i < M.2.2.1) (hq : (i, .int x) :: lo.filter (hv_f1 i) = lo') (k : hv_TW l E R cells slots M Ψ Z (pc + 2) lo' st σ) : hv_TW l E R cells slots M Ψ Z pc lo (.int x :: st) σ := by
  intro p e s m args below meth c H locs ls hf hΨ hK hP hS hl
  exact lv_istore hf.1 hf.2.1 hd hl hn (by rw [hv_lo_f1, ← hq]; rfl) (fun ls' hl' => k p e s m args below meth c H locs ls' hf hΨ hK hP hS hl')
theorem T_lstore_n {n : Fin 4} {i : Nat} {x : Int64} {lo' : List (Nat × Value)} (hd : decode M.2.1 pc = .ok (.lstore_n n, 1)) (hi : (n : Nat) = i) (hn : i + 1 < M.2.2.1) (hq : (i, .long x) :: lo.filter (hv_f2 i) = lo') (k : hv_TW l E R cells slots M Ψ Z (pc + 1) lo' st σ) : hv_TW l E R cells slots M Ψ Z pc lo (.long x :: st) σ := by
  intro p e s m args below meth c H locs ls hf hΨ hK hP hS hl
  exact lv_lstore_n hf.1 hf.2.1 hd hi hl hn (by rw [hv_lo_f2, ← hq]; rfl) (fun ls' hl' => k p e s m args below meth c H locs ls' hf hΨ hK hP hS hl')
theorem T_lstore {i : Nat} {x : Int64} {lo' : List (Nat × Value)} (hd : decode M.2.1 pc = .ok (.lstore i, 2)) (hn : i + 1 < M.2.2.1) (hq : (i, .long x) :: lo.filter (hv_f2 i) = lo') (k : hv_TW l E R cells slots M Ψ Z (pc + 2) lo' st σ) : hv_TW l E R cells slots M Ψ Z pc lo (.long x :: st) σ := by
  intro p e s m args below meth c H locs ls hf hΨ hK hP hS hl
  exact lv_lstore hf.1 hf.2.1 hd hl hn (by rw [hv_lo_f2, ← hq]; rfl) (fun ls' hl' => k p e s m args below meth c H locs ls' hf hΨ hK hP hS hl')
theorem T_astore_n {n : Fin 4} {i : Nat} {x : Nat} {lo' : List (Nat × Value)} (hd : decode M.2.1 pc = .ok (.astore_n n, 1)) (hi : (n : Nat) = i) (hn : i < M.2.2.1) (hq : (i, .ref x) :: lo.filter (hv_f1 i) = lo') (k : hv_TW l E R cells slots M Ψ Z (pc + 1) lo' st σ) : hv_TW l E R cells slots M Ψ Z pc lo (.ref x :: st) σ := by
  intro p e s m args below meth c H locs ls hf hΨ hK hP hS hl
  exact lv_astore_n hf.1 hf.2.1 hd hi hl hn (by rw [hv_lo_f1, ← hq]; rfl) (fun ls' hl' => k p e s m args below meth c H locs ls' hf hΨ hK hP hS hl')
theorem T_astore {i : Nat} {x : Nat} {lo' : List (Nat × Value)} (hd : decode M.2.1 pc = .ok (.astore i, 2)) (hn : i < M.2.2.1) (hq : (i, .ref x) :: lo.filter (hv_f1 i) = lo') (k : hv_TW l E R cells slots M Ψ Z (pc + 2) lo' st σ) : hv_TW l E R cells slots M Ψ Z pc lo (.ref x :: st) σ := by
  intro p e s m args below meth c H locs ls hf hΨ hK hP hS hl
  exact lv_astore hf.1 hf.2.1 hd hl hn (by rw [hv_lo_f1, ← hq]; rfl) (fun ls' hl' => k p e s m args below meth c H locs ls' hf hΨ hK hP hS hl')
theorem T_iinc {i : Nat} {n : Int} {x v : Int32} {lo' : List (Nat × Value)} (hd : decode M.2.1 pc = .ok (.iinc i n, 3)) (j : Nat) (hj : lo[j]? = some (i, .int x)) (hv : x + Int32.ofInt n = v) (hn : i < M.2.2.1) (hq : (i, .int v) :: lo.filter (hv_f1 i) = lo') (k : hv_TW l E R cells slots M Ψ Z (pc + 3) lo' st σ) : hv_TW l E R cells slots M Ψ Z pc lo st σ := by
  intro p e s m args below meth c H locs ls hf hΨ hK hP hS hl
  exact lv_iinc hf.1 hf.2.1 hd hl (hv_lo_get hj) hv hn (by rw [hv_lo_f1, ← hq]; rfl) (fun ls' hl' => k p e s m args below meth c H locs ls' hf hΨ hK hP hS hl')
theorem T_dup {v : Value} (hd : decode M.2.1 pc = .ok (.dup, 1)) (hv : v.category = 1) (k : hv_TW l E R cells slots M Ψ Z (pc + 1) lo (v :: v :: st) σ) : hv_TW l E R cells slots M Ψ Z pc lo (v :: st) σ := by
  intro p e s m args below meth c H locs ls hf hΨ hK hP hS hl
  exact lv_dup hf.1 hf.2.1 hd (by rw [hv_cv_cat]; exact hv) (k p e s m args below meth c H locs ls hf hΨ hK hP hS hl)
theorem T_pop {v : Value} (hd : decode M.2.1 pc = .ok (.pop, 1)) (hv : v.category = 1) (k : hv_TW l E R cells slots M Ψ Z (pc + 1) lo st σ) : hv_TW l E R cells slots M Ψ Z pc lo (v :: st) σ := by
  intro p e s m args below meth c H locs ls hf hΨ hK hP hS hl
  exact lv_pop hf.1 hf.2.1 hd (by rw [hv_cv_cat]; exact hv) (k p e s m args below meth c H locs ls hf hΨ hK hP hS hl)
theorem T_dup2 {v w : Value} (hd : decode M.2.1 pc = .ok (.dup2, 1)) (hv : v.category = 1) (hw : w.category = 1) (k : hv_TW l E R cells slots M Ψ Z (pc + 1) lo (v :: w :: v :: w :: st) σ) : hv_TW l E R cells slots M Ψ Z pc lo (v :: w :: st) σ := by
  intro p e s m args below meth c H locs ls hf hΨ hK hP hS hl
  exact lv_dup2_11 hf.1 hf.2.1 hd (by rw [hv_cv_cat]; assumption) (by rw [hv_cv_cat]; assumption) (k p e s m args below meth c H locs ls hf hΨ hK hP hS hl)
theorem T_dup2l {v : Value} (hd : decode M.2.1 pc = .ok (.dup2, 1)) (hv : v.category = 2) (k : hv_TW l E R cells slots M Ψ Z (pc + 1) lo (v :: v :: st) σ) : hv_TW l E R cells slots M Ψ Z pc lo (v :: st) σ := by
  intro p e s m args below meth c H locs ls hf hΨ hK hP hS hl
  exact lv_dup2_2 hf.1 hf.2.1 hd (by rw [hv_cv_cat]; exact hv) (k p e s m args below meth c H locs ls hf hΨ hK hP hS hl)
theorem T_if_eq {x : Int32} {off : Int} {tgt : Nat} (hd : decode M.2.1 pc = .ok (.ifCond .eq off, 3)) (ht : (pc : Int) + off = (tgt : Int)) (h1 : x = 0 → hv_TW l E R cells slots M Ψ Z tgt lo st σ) (h2 : ¬ x = 0 → hv_TW l E R cells slots M Ψ Z (pc + 3) lo st σ) : hv_TW l E R cells slots M Ψ Z pc lo (.int x :: st) σ := by
  intro p e s m args below meth c H locs ls hf hΨ hK hP hS hl
  exact lv_if_eq hf.1 hf.2.1 hd ht (fun q => h1 q p e s m args below meth c H locs ls hf hΨ hK hP hS hl) (fun q => h2 q p e s m args below meth c H locs ls hf hΨ hK hP hS hl)
theorem T_if_ne {x : Int32} {off : Int} {tgt : Nat} (hd : decode M.2.1 pc = .ok (.ifCond .ne off, 3)) (ht : (pc : Int) + off = (tgt : Int)) (h1 : x ≠ 0 → hv_TW l E R cells slots M Ψ Z tgt lo st σ) (h2 : x = 0 → hv_TW l E R cells slots M Ψ Z (pc + 3) lo st σ) : hv_TW l E R cells slots M Ψ Z pc lo (.int x :: st) σ := by
  intro p e s m args below meth c H locs ls hf hΨ hK hP hS hl
  exact lv_if_ne hf.1 hf.2.1 hd ht (fun q => h1 q p e s m args below meth c H locs ls hf hΨ hK hP hS hl) (fun q => h2 q p e s m args below meth c H locs ls hf hΨ hK hP hS hl)
theorem T_if_lt {x : Int32} {off : Int} {tgt : Nat} (hd : decode M.2.1 pc = .ok (.ifCond .lt off, 3)) (ht : (pc : Int) + off = (tgt : Int)) (h1 : x < 0 → hv_TW l E R cells slots M Ψ Z tgt lo st σ) (h2 : ¬ x < 0 → hv_TW l E R cells slots M Ψ Z (pc + 3) lo st σ) : hv_TW l E R cells slots M Ψ Z pc lo (.int x :: st) σ := by
  intro p e s m args below meth c H locs ls hf hΨ hK hP hS hl
  exact lv_if_lt hf.1 hf.2.1 hd ht (fun q => h1 q p e s m args below meth c H locs ls hf hΨ hK hP hS hl) (fun q => h2 q p e s m args below meth c H locs ls hf hΨ hK hP hS hl)
theorem T_if_ge {x : Int32} {off : Int} {tgt : Nat} (hd : decode M.2.1 pc = .ok (.ifCond .ge off, 3)) (ht : (pc : Int) + off = (tgt : Int)) (h1 : 0 ≤ x → hv_TW l E R cells slots M Ψ Z tgt lo st σ) (h2 : ¬ 0 ≤ x → hv_TW l E R cells slots M Ψ Z (pc + 3) lo st σ) : hv_TW l E R cells slots M Ψ Z pc lo (.int x :: st) σ := by
  intro p e s m args below meth c H locs ls hf hΨ hK hP hS hl
  exact lv_if_ge hf.1 hf.2.1 hd ht (fun q => h1 q p e s m args below meth c H locs ls hf hΨ hK hP hS hl) (fun q => h2 q p e s m args below meth c H locs ls hf hΨ hK hP hS hl)
theorem T_if_gt {x : Int32} {off : Int} {tgt : Nat} (hd : decode M.2.1 pc = .ok (.ifCond .gt off, 3)) (ht : (pc : Int) + off = (tgt : Int)) (h1 : 0 < x → hv_TW l E R cells slots M Ψ Z tgt lo st σ) (h2 : ¬ 0 < x → hv_TW l E R cells slots M Ψ Z (pc + 3) lo st σ) : hv_TW l E R cells slots M Ψ Z pc lo (.int x :: st) σ := by
  intro p e s m args below meth c H locs ls hf hΨ hK hP hS hl
  exact lv_if_gt hf.1 hf.2.1 hd ht (fun q => h1 q p e s m args below meth c H locs ls hf hΨ hK hP hS hl) (fun q => h2 q p e s m args below meth c H locs ls hf hΨ hK hP hS hl)
theorem T_if_le {x : Int32} {off : Int} {tgt : Nat} (hd : decode M.2.1 pc = .ok (.ifCond .le off, 3)) (ht : (pc : Int) + off = (tgt : Int)) (h1 : x ≤ 0 → hv_TW l E R cells slots M Ψ Z tgt lo st σ) (h2 : ¬ x ≤ 0 → hv_TW l E R cells slots M Ψ Z (pc + 3) lo st σ) : hv_TW l E R cells slots M Ψ Z pc lo (.int x :: st) σ := by
  intro p e s m args below meth c H locs ls hf hΨ hK hP hS hl
  exact lv_if_le hf.1 hf.2.1 hd ht (fun q => h1 q p e s m args below meth c H locs ls hf hΨ hK hP hS hl) (fun q => h2 q p e s m args below meth c H locs ls hf hΨ hK hP hS hl)
theorem T_icmp_eq {x y : Int32} {off : Int} {tgt : Nat} (hd : decode M.2.1 pc = .ok (.if_icmp .eq off, 3)) (ht : (pc : Int) + off = (tgt : Int)) (h1 : x = y → hv_TW l E R cells slots M Ψ Z tgt lo st σ) (h2 : ¬ x = y → hv_TW l E R cells slots M Ψ Z (pc + 3) lo st σ) : hv_TW l E R cells slots M Ψ Z pc lo (.int y :: .int x :: st) σ := by
  intro p e s m args below meth c H locs ls hf hΨ hK hP hS hl
  exact lv_icmp_eq hf.1 hf.2.1 hd ht (fun q => h1 q p e s m args below meth c H locs ls hf hΨ hK hP hS hl) (fun q => h2 q p e s m args below meth c H locs ls hf hΨ hK hP hS hl)
theorem T_icmp_ne {x y : Int32} {off : Int} {tgt : Nat} (hd : decode M.2.1 pc = .ok (.if_icmp .ne off, 3)) (ht : (pc : Int) + off = (tgt : Int)) (h1 : x ≠ y → hv_TW l E R cells slots M Ψ Z tgt lo st σ) (h2 : x = y → hv_TW l E R cells slots M Ψ Z (pc + 3) lo st σ) : hv_TW l E R cells slots M Ψ Z pc lo (.int y :: .int x :: st) σ := by
  intro p e s m args below meth c H locs ls hf hΨ hK hP hS hl
  exact lv_icmp_ne hf.1 hf.2.1 hd ht (fun q => h1 q p e s m args below meth c H locs ls hf hΨ hK hP hS hl) (fun q => h2 q p e s m args below meth c H locs ls hf hΨ hK hP hS hl)
theorem T_icmp_lt {x y : Int32} {off : Int} {tgt : Nat} (hd : decode M.2.1 pc = .ok (.if_icmp .lt off, 3)) (ht : (pc : Int) + off = (tgt : Int)) (h1 : x < y → hv_TW l E R cells slots M Ψ Z tgt lo st σ) (h2 : ¬ x < y → hv_TW l E R cells slots M Ψ Z (pc + 3) lo st σ) : hv_TW l E R cells slots M Ψ Z pc lo (.int y :: .int x :: st) σ := by
  intro p e s m args below meth c H locs ls hf hΨ hK hP hS hl
  exact lv_icmp_lt hf.1 hf.2.1 hd ht (fun q => h1 q p e s m args below meth c H locs ls hf hΨ hK hP hS hl) (fun q => h2 q p e s m args below meth c H locs ls hf hΨ hK hP hS hl)
theorem T_icmp_ge {x y : Int32} {off : Int} {tgt : Nat} (hd : decode M.2.1 pc = .ok (.if_icmp .ge off, 3)) (ht : (pc : Int) + off = (tgt : Int)) (h1 : y ≤ x → hv_TW l E R cells slots M Ψ Z tgt lo st σ) (h2 : ¬ y ≤ x → hv_TW l E R cells slots M Ψ Z (pc + 3) lo st σ) : hv_TW l E R cells slots M Ψ Z pc lo (.int y :: .int x :: st) σ := by
  intro p e s m args below meth c H locs ls hf hΨ hK hP hS hl
  exact lv_icmp_ge hf.1 hf.2.1 hd ht (fun q => h1 q p e s m args below meth c H locs ls hf hΨ hK hP hS hl) (fun q => h2 q p e s m args below meth c H locs ls hf hΨ hK hP hS hl)
theorem T_icmp_gt {x y : Int32} {off : Int} {tgt : Nat} (hd : decode M.2.1 pc = .ok (.if_icmp .gt off, 3)) (ht : (pc : Int) + off = (tgt : Int)) (h1 : y < x → hv_TW l E R cells slots M Ψ Z tgt lo st σ) (h2 : ¬ y < x → hv_TW l E R cells slots M Ψ Z (pc + 3) lo st σ) : hv_TW l E R cells slots M Ψ Z pc lo (.int y :: .int x :: st) σ := by
  intro p e s m args below meth c H locs ls hf hΨ hK hP hS hl
  exact lv_icmp_gt hf.1 hf.2.1 hd ht (fun q => h1 q p e s m args below meth c H locs ls hf hΨ hK hP hS hl) (fun q => h2 q p e s m args below meth c H locs ls hf hΨ hK hP hS hl)
theorem T_icmp_le {x y : Int32} {off : Int} {tgt : Nat} (hd : decode M.2.1 pc = .ok (.if_icmp .le off, 3)) (ht : (pc : Int) + off = (tgt : Int)) (h1 : x ≤ y → hv_TW l E R cells slots M Ψ Z tgt lo st σ) (h2 : ¬ x ≤ y → hv_TW l E R cells slots M Ψ Z (pc + 3) lo st σ) : hv_TW l E R cells slots M Ψ Z pc lo (.int y :: .int x :: st) σ := by
  intro p e s m args below meth c H locs ls hf hΨ hK hP hS hl
  exact lv_icmp_le hf.1 hf.2.1 hd ht (fun q => h1 q p e s m args below meth c H locs ls hf hΨ hK hP hS hl) (fun q => h2 q p e s m args below meth c H locs ls hf hΨ hK hP hS hl)
theorem T_goto {off : Int} {tgt : Nat} (hd : decode M.2.1 pc = .ok (.goto off, 3)) (ht : (pc : Int) + off = (tgt : Int)) (k : hv_TW l E R cells slots M Ψ Z tgt lo st σ) : hv_TW l E R cells slots M Ψ Z pc lo st σ := by
  intro p e s m args below meth c H locs ls hf hΨ hK hP hS hl
  exact lv_goto hf.1 hf.2.1 hd ht (k p e s m args below meth c H locs ls hf hΨ hK hP hS hl)
theorem T_lookup {dflt : Int} {ps : Array (Int × Int)} {len : Nat} {x : Int32} {off : Int} {tgt : Nat} (hd : decode M.2.1 pc = .ok (.lookupswitch dflt ps, len)) (hp : (ps.toList.zip (ps.toList.drop 1)).all (fun (a, next) => a.1 < next.1) = true) (ho : Op.lookupswitch.offset ps.toList dflt x.toInt = off) (ht : (pc : Int) + off = (tgt : Int)) (k : hv_TW l E R cells slots M Ψ Z tgt lo st σ) : hv_TW l E R cells slots M Ψ Z pc lo (.int x :: st) σ := by
  intro p e s m args below meth c H locs ls hf hΨ hK hP hS hl
  exact lv_lookup hf.1 hf.2.1 hd hp ho ht (k p e s m args below meth c H locs ls hf hΨ hK hP hS hl)
theorem T_tableOut {dflt lw hw : Int} {offs : Array Int} {len : Nat} {x : Int32} {tgt : Nat} (hd : decode M.2.1 pc = .ok (.tableswitch dflt lw hw offs, len)) (h : x.toInt < lw ∨ hw < x.toInt) (ht : (pc : Int) + dflt = (tgt : Int)) (k : hv_TW l E R cells slots M Ψ Z tgt lo st σ) : hv_TW l E R cells slots M Ψ Z pc lo (.int x :: st) σ := by
  intro p e s m args below meth c H locs ls hf hΨ hK hP hS hl
  exact lv_tableOut hf.1 hf.2.1 hd h ht (k p e s m args below meth c H locs ls hf hΨ hK hP hS hl)
theorem T_tableIn {dflt lw hw : Int} {offs : Array Int} {len : Nat} {x : Int32} {off : Int} {tgt : Nat} (hd : decode M.2.1 pc = .ok (.tableswitch dflt lw hw offs, len)) (h1 : ¬ x.toInt < lw) (h2 : ¬ hw < x.toInt) (ho : offs[(x.toInt - lw).toNat]? = some off) (ht : (pc : Int) + off = (tgt : Int)) (k : hv_TW l E R cells slots M Ψ Z tgt lo st σ) : hv_TW l E R cells slots M Ψ Z pc lo (.int x :: st) σ := by
  intro p e s m args below meth c H locs ls hf hΨ hK hP hS hl
  exact lv_tableIn hf.1 hf.2.1 hd h1 h2 ho ht (k p e s m args below meth c H locs ls hf hΨ hK hP hS hl)
end T
