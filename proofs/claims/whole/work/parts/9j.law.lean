-- THE LAW: the claim's own words, and the rows of its frame, over both worlds
def R_law : String := "HandedVoicesLaw"
def lw_P (b : Addr) (xs : List Int32) (args : Array Value) (s : State) : Prop := args = #[.ref b] ∧ s.IntsAt b xs ∧ xs.length ≤ 384 ∧ (Jvm.Cond.and given_1 narrow_1).before args s = true
def lw_Q (_ : Array Value) (s : State) (o : Outcome) (t : State) : Prop := o = .returned (some (.int 1)) ∧ Framed s o t [] 600000 7302249
def lw_Z (below : List Frame) (a : Array Value) (s : State) : State → Prop := fun t => ∃ o, t.status = .running ∧ Ended t below o ∧ lw_Q a s o t
/-- the law's own end, with 1 on the stack, nothing written that was there before, its room as the claim has it -/
theorem lw_ret {p : Program} {l : Launch} {e : Env} {s : State} {m : MethodId} {below : List Frame} {meth : Method} {c : Code} {b : Nat} (hx : p.tables.exec = Jvm.exec) (hb : c.code = code) (hr : meth.sig.returnType = ret) (hlocks : meth.locks = false) {pc : Nat} {H : Heap} {ls : Array Slot} (hdg : decode code pc = .ok (.ireturn, 1)) : W p l e room_1 s m #[Value.ref b] below meth c H [] 600000 7302249 (lw_Z below #[Value.ref b] s) (F0 m pc ls [.int 1]) := by
  intro T hT X
  obtain ⟨fs, hret, hrun, hended, hW, hframe⟩ := X.leave (v := some (.int 1)) (hlocks := hlocks) (fun h => by rw [hr] at h; cases h)
  have hmeth' : T.vm.method? m = some meth := X.method'
  refine ⟨T.setFrames fs, ?_, .returned (some (.int 1)), hrun, hended, rfl, ⟨_, rfl⟩, hW, hframe⟩
  jvm_step X.here [X.here.top, hx, hb, hdg, hmeth', hr, ret, narrow_b1]
  (try refine ⟨rfl, ?_⟩); (try refine ⟨rfl, ?_⟩)
  first | (intro acts; rw [hret _ acts rfl rfl rfl]) | rw [hret _ _ rfl rfl rfl]
  exact Steps.refl _
/-- what holds at the law's entry: the machine, the code, the tables' words (any of lw_tbl by 'hts w (by decide +kernel)'), the script of L ints xs at the cell b, what the Statement gives of the start (any of its parts by flat_of_before) -/
def lw_At (p : Program) (s : State) (m : MethodId) (meth : Method) (c : Code) (b L : Nat) (xs : Nat → Int32) : Prop :=
  p.tables.exec = Jvm.exec ∧ c.code = code ∧ meth.sig.returnType = ret ∧ c.maxLocals = 4 ∧ s.vm.findClass R_law = some m.cls ∧ (∀ w ∈ lw_tbl, w.before #[Value.ref b] s = true) ∧ va_X b L xs s s.heap ∧ b < s.heap.size ∧ meth.locks = false ∧ (Jvm.Cond.and given_1 narrow_1).before #[Value.ref b] s = true

def hv_LT (l : Launch) (e : hv_Ev) (A1 A2 : Nat → Prop) (b L : Nat) (xs : Nat → Int32) (cells slots pc : Nat) (lo : List (Nat × Value)) (st : List Value) (σ1 σ2 : hv_S) : Prop :=
  ∀ (p : Program) (ee : Env) (s : State) (m : MethodId) (below : List Frame) (meth : Method) (c : Code) (H : Heap) (locs : List Loc) (ls : Array Slot),
    lw_At p s m meth c b L xs → hv_K (hv_e1 e) s s.heap → (∀ q, e.2.2.2 q ↔ s.heap.size ≤ q) → (∀ q, A1 q → e.2.2.2 q) → (∀ q, A2 q → e.2.2.2 q) → (∀ q, A1 q → ¬ A2 q) →
    hv_P (hv_e1 (e.1, e.2.1, e.2.2.1, A1)) σ1 H → hv_P (hv_e2 (e.1, e.2.1, e.2.2.1, A2)) σ2 H → va_S e.2.2.2 s.heap H locs → lv_has ls 4 lo →
    W p l ee room_1 s m #[Value.ref b] below meth c H locs cells slots (lw_Z below #[Value.ref b] s) (F0 m pc ls st)
section LR
variable {l : Launch} {e : hv_Ev} {A1 A2 : Nat → Prop} {b L : Nat} {xs : Nat → Int32} {cells slots pc : Nat} {lo : List (Nat × Value)} {st : List Value} {σ1 σ2 : hv_S}
theorem Y_aload_n {n : Fin 4} {i : Nat} {x : Nat} (hd : decode code pc = .ok (.aload_n n, 1)) (hi : (n : Nat) = i) (j : Nat) (hj : lo[j]? = some (i, .ref x)) (k : hv_LT l e A1 A2 b L xs cells slots (pc + 1) lo (.ref x :: st) σ1 σ2) : hv_LT l e A1 A2 b L xs cells slots pc lo st σ1 σ2 := by
  intro p ee s m below meth c H locs ls h0 h1 h2 h3 h4 h5 h6 h7 h8 hl
  exact lv_aload_n h0.1 h0.2.1 hd hi (lv_at hl j hj) (k p ee s m below meth c H locs ls h0 h1 h2 h3 h4 h5 h6 h7 h8 hl)
theorem Y_iload_n {n : Fin 4} {i : Nat} {x : Int32} (hd : decode code pc = .ok (.iload_n n, 1)) (hi : (n : Nat) = i) (j : Nat) (hj : lo[j]? = some (i, .int x)) (k : hv_LT l e A1 A2 b L xs cells slots (pc + 1) lo (.int x :: st) σ1 σ2) : hv_LT l e A1 A2 b L xs cells slots pc lo st σ1 σ2 := by
  intro p ee s m below meth c H locs ls h0 h1 h2 h3 h4 h5 h6 h7 h8 hl
  exact lv_iload_n h0.1 h0.2.1 hd hi (lv_at hl j hj) (k p ee s m below meth c H locs ls h0 h1 h2 h3 h4 h5 h6 h7 h8 hl)
theorem Y_iconst {n : Int} {v : Int32} (hd : decode code pc = .ok (.iconst n, 1)) (hv : Int32.ofInt n = v) (k : hv_LT l e A1 A2 b L xs cells slots (pc + 1) lo (.int v :: st) σ1 σ2) : hv_LT l e A1 A2 b L xs cells slots pc lo st σ1 σ2 := by
  intro p ee s m below meth c H locs ls h0 h1 h2 h3 h4 h5 h6 h7 h8 hl
  exact lv_iconst h0.1 h0.2.1 hd hv (k p ee s m below meth c H locs ls h0 h1 h2 h3 h4 h5 h6 h7 h8 hl)
theorem Y_bipush {n : Int} {v : Int32} (hd : decode code pc = .ok (.bipush n, 2)) (hv : (Int8.ofInt n).toInt32 = v) (k : hv_LT l e A1 A2 b L xs cells slots (pc + 2) lo (.int v :: st) σ1 σ2) : hv_LT l e A1 A2 b L xs cells slots pc lo st σ1 σ2 := by
  intro p ee s m below meth c H locs ls h0 h1 h2 h3 h4 h5 h6 h7 h8 hl
  exact lv_bipush h0.1 h0.2.1 hd hv (k p ee s m below meth c H locs ls h0 h1 h2 h3 h4 h5 h6 h7 h8 hl)
theorem Y_iadd {x y : Int32} (hd : decode code pc = .ok (.iadd, 1)) (k : hv_LT l e A1 A2 b L xs cells slots (pc + 1) lo (.int (x + y) :: st) σ1 σ2) : hv_LT l e A1 A2 b L xs cells slots pc lo (.int y :: .int x :: st) σ1 σ2 := by
  intro p ee s m below meth c H locs ls h0 h1 h2 h3 h4 h5 h6 h7 h8 hl
  exact lv_iadd h0.1 h0.2.1 hd (k p ee s m below meth c H locs ls h0 h1 h2 h3 h4 h5 h6 h7 h8 hl)
/-- a number out of the script -/
theorem Y_scr {i : Int32} (hd : decode code pc = .ok (.iaload, 1)) (hin : vp_in i L) (k : hv_LT l e A1 A2 b L xs cells slots (pc + 1) lo (.int (xs i.toNatClampNeg) :: st) σ1 σ2) : hv_LT l e A1 A2 b L xs cells slots pc lo (.int i :: .ref b :: st) σ1 σ2 := by
  intro p ee s m below meth c H locs ls h0 h1 h2 h3 h4 h5 h6 h7 h8 hl
  have hbA : ¬ e.2.2.2 b := fun z => Nat.not_le.mpr h0.2.2.2.2.2.2.2.1 ((h2 b).mp z)
  exact va_sld h0.1 h0.2.1 h0.2.2.2.2.2.2.1 h0.2.2.2.2.2.2.2.1 hbA h8 hin hd (k p ee s m below meth c H locs ls h0 h1 h2 h3 h4 h5 h6 h7 h8 hl)
theorem Y_slen (hd : decode code pc = .ok (.arraylength, 1)) (k : hv_LT l e A1 A2 b L xs cells slots (pc + 1) lo (.int (Int32.ofNat L) :: st) σ1 σ2) : hv_LT l e A1 A2 b L xs cells slots pc lo (.ref b :: st) σ1 σ2 := by
  intro p ee s m below meth c H locs ls h0 h1 h2 h3 h4 h5 h6 h7 h8 hl
  have hbA : ¬ e.2.2.2 b := fun z => Nat.not_le.mpr h0.2.2.2.2.2.2.2.1 ((h2 b).mp z)
  exact va_slen h0.1 h0.2.1 h0.2.2.2.2.2.2.1 h0.2.2.2.2.2.2.2.1 hbA h8 hd (k p ee s m below meth c H locs ls h0 h1 h2 h3 h4 h5 h6 h7 h8 hl)
theorem Y_goto {off : Int} {tgt : Nat} (hd : decode code pc = .ok (.goto off, 3)) (ht : (pc : Int) + off = (tgt : Int)) (k : hv_LT l e A1 A2 b L xs cells slots tgt lo st σ1 σ2) : hv_LT l e A1 A2 b L xs cells slots pc lo st σ1 σ2 := by
  intro p ee s m below meth c H locs ls h0 h1 h2 h3 h4 h5 h6 h7 h8 hl
  exact lv_goto h0.1 h0.2.1 hd ht (k p ee s m below meth c H locs ls h0 h1 h2 h3 h4 h5 h6 h7 h8 hl)
end LR
