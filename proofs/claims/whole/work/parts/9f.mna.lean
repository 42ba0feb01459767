-- LONG[8][9]: an array of arrays, made by one instruction
/-- the outer array, when i of the inner ones lie in it -/
def mn_o (cA : ClassId) (h i : Nat) : Cell := arrV cA 8 (fun j => if j < i then .ref (h + 1 + j) else .null)
/-- the state, when i of them are made -/
def mn_s (S : State) (cA cI : ClassId) : Nat → State
  | 0 => S.pushCell (mn_o cA S.heap.size 0)
  | i + 1 => ((mn_s S cA cI i).pushCell (arrV cI 9 (fun _ => .long 0))).setCell S.heap.size (mn_o cA S.heap.size (i + 1))
theorem mn_o0 (cA : ClassId) (h : Nat) : arrV cA 8 (fun _ => .null) = mn_o cA h 0 := arrV_same (fun j _ => (if_neg (Nat.not_lt_zero j)).symm)
theorem mn_os (cA : ClassId) (h i : Nat) : (mn_o cA h i).setSlot i (.ref (h + 1 + i)) = mn_o cA h (i + 1) := by
  unfold mn_o
  rw [arrV_store]
  refine arrV_same (fun j _ => ?_)
  show (if j = i then Value.ref (h + 1 + i) else if j < i then .ref (h + 1 + j) else .null) = if j < i + 1 then .ref (h + 1 + j) else .null
  by_cases c : j = i
  · rw [if_pos c, if_pos (by omega), c]
  · rw [if_neg c]
    by_cases d : j < i
    · rw [if_pos d, if_pos (by omega)]
    · rw [if_neg d, if_neg (by omega)]
/-- what lies there then -/
def mn_F (S : State) (cA cI : ClassId) (i : Nat) (U : State) : Prop := U.heap.size = S.heap.size + 1 + i ∧ U.heap[S.heap.size]? = some (mn_o cA S.heap.size i) ∧ U.vm = S.vm ∧ U.slotsUsed = S.slotsUsed + 8 + 9 * i ∧
  (∀ a : Nat, a < S.heap.size → U.heap[a]? = S.heap[a]?) ∧ ∀ j, j < i → U.heap[S.heap.size + 1 + j]? = some (arrV cI 9 (fun _ => .long 0))
theorem mn_f (S : State) (cA cI : ClassId) : ∀ i, mn_F S cA cI i (mn_s S cA cI i) := by
  intro i
  induction i with
  | zero =>
    refine ⟨by simp [mn_s], by simp [mn_s], rfl, by simp [mn_s, mn_o, arrV_size], fun a ha => State.heap_pushCell_of_lt _ _ ha, fun j hj => absurd hj (Nat.not_lt_zero j)⟩
  | succ i ih =>
    obtain ⟨a1, a2, a3, a4, a5, a6⟩ := ih
    have hl : ∀ a : Nat, a < S.heap.size + 1 + i → ((mn_s S cA cI i).pushCell (arrV cI 9 (fun _ => .long 0))).heap[a]? = (mn_s S cA cI i).heap[a]? := fun a ha => State.heap_pushCell_of_lt _ _ (by rw [a1]; exact ha)
    have hn : ((mn_s S cA cI i).pushCell (arrV cI 9 (fun _ => .long 0))).heap[S.heap.size + 1 + i]? = some (arrV cI 9 (fun _ => .long 0)) := by rw [← a1]; exact State.heap_pushCell_size _ _
    refine ⟨?_, State.heap_setCell_self ((hl _ (by omega)).trans a2), a3, ?_, fun a ha => ?_, fun j hj => ?_⟩
    · simp [mn_s, State.setCell, a1]; omega
    · simp [mn_s, a4, arrV_size]; omega
    · show (((mn_s S cA cI i).pushCell (arrV cI 9 (fun _ => .long 0))).setCell S.heap.size _).heap[a]? = _
      rw [State.heap_setCell_other (Nat.ne_of_gt ha), hl a (by omega)]
      exact a5 a ha
    · show (((mn_s S cA cI i).pushCell (arrV cI 9 (fun _ => .long 0))).setCell S.heap.size _).heap[S.heap.size + 1 + j]? = _
      rw [State.heap_setCell_other (show S.heap.size ≠ S.heap.size + 1 + j by omega)]
      by_cases c : j = i
      · rw [c]; exact hn
      · rw [hl _ (by omega)]
        exact a6 j (by omega)
theorem mn_top (S : State) (f : JFrame) (cA cI : ClassId) : ∀ i, mn_s (S.setTop f) cA cI i = (mn_s S cA cI i).setTop f := by
  intro i
  induction i with
  | zero => rfl
  | succ i ih =>
    show ((mn_s (S.setTop f) cA cI i).pushCell _).setCell _ _ = _
    rw [ih]
    rfl
section MW
variable {E : CtlPost} {ee : Env} {d : Bool} {acts : List Action} {S : State}
/-- one array -/
theorem mn_new {c comp : ClassId} {k : Class} {ty : FieldType} {n : Nat} {v : Value} {Q : Addr → Pre} (hk : S.vm.classes[c]? = some k) (hkind : k.kind = .array comp ty) (h1 : n ≤ ee.platform.arrayLengthLimit) (h2 : n * componentBytes ty ≤ ee.platform.maxHeapBytes) (hv : v.isDefault = true) (hf : fits ty v = true) (hc : S.heap.size < ee.platform.maxCells) (hs : S.slotsUsed + n ≤ ee.platform.maxSlots)
    (hq : Q S.heap.size d acts (S.pushCell (arrV c n (fun _ => v)))) : wp (Jvm.newArray c n v) Q E ee d acts S := by
  have hfit : ∀ (i : Nat) (w : Value), (Array.replicate n v)[i]? = some w → S.fitsSlot c .none i w = true := by
    intro i w hw
    rw [Array.getElem?_replicate] at hw
    split at hw
    · cases hw
      simp [State.fitsSlot, State.slotType?, hk, hkind, hf]
    · cases hw
  have hall : allocActs (Array.replicate n v) S.heap.size acts = acts := by
    unfold allocActs
    refine if_pos ?_
    rw [Array.all_replicate]
    split
    · rfl
    · exact hv
  rw [← arrV_new] at hq
  simp only [Jvm.newArray, Jvm.arrayFits, wp_bind', W.ask, W.ite, show ¬ n > ee.platform.arrayLengthLimit from Nat.not_lt.mpr h1, if_false, wp_pure', W.theClass, hk, hkind, show ¬ n * componentBytes ty > ee.platform.maxHeapBytes from Nat.not_lt.mpr h2, W.alloc, W.stop, Option.some.injEq, exists_eq_left', Array.size_replicate, hall]
  rw [if_neg (by omega)]
  exact ⟨hc, hs, hfit, hq⟩
/-- one of the inner arrays -/
theorem mn_one {cI cc : ClassId} {kI : Class} (hkI : S.vm.classes[cI]? = some kI) (hI : kI.kind = .array cc .long) (hl : 9 ≤ ee.platform.arrayLengthLimit) (hm : 72 ≤ ee.platform.maxHeapBytes) (hc : S.heap.size < ee.platform.maxCells) (hs : S.slotsUsed + 9 ≤ ee.platform.maxSlots) {Q : Addr → Pre} (hq : Q S.heap.size d acts (S.pushCell (arrV cI 9 (fun _ => .long 0)))) :
    wp (Op.multianewarray.make cI [9]) Q E ee d acts S := by
  rw [Op.multianewarray.make]
  simp only [wp_bind', W.ite, show ¬ (9 : Int32) < 0 by decide, if_false, wp_pure', W.theClass, hkI, hI, Option.some.injEq, exists_eq_left']
  exact mn_new hkI hI hl hm rfl rfl hc hs hq
/-- all of it -/
theorem mn_make {cA cI cc : ClassId} {kA kI : Class} (hkA : S.vm.classes[cA]? = some kA) (hA : kA.kind = .array cI (.array .long)) (hkI : S.vm.classes[cI]? = some kI) (hI : kI.kind = .array cc .long) (hl : 9 ≤ ee.platform.arrayLengthLimit) (hm : 72 ≤ ee.platform.maxHeapBytes) (hc : S.heap.size + 9 ≤ ee.platform.maxCells) (hs : S.slotsUsed + 80 ≤ ee.platform.maxSlots) {Q : Addr → Pre}
    (hq : ∀ d' acts', Q S.heap.size d' acts' (mn_s S cA cI 8)) : wp (Op.multianewarray.make cA [8, 9]) Q E ee d acts S := by
  rw [Op.multianewarray.make]
  simp only [wp_bind', W.ite, show ¬ (8 : Int32) < 0 by decide, if_false, wp_pure', W.theClass, hkA, hA, Option.some.injEq, exists_eq_left']
  refine mn_new hkA hA (n := 8) (by omega) (by show 8 * 4 ≤ _; omega) rfl rfl (by omega) (by show _ + 8 ≤ _; omega) ?_
  rw [mn_o0 cA S.heap.size]
  show wp _ _ E ee d acts (mn_s S cA cI 0)
  simp only [show ((8 : Int32) == 0) = false by decide, Bool.false_eq_true, if_false, wp_bind', wp_pure']
  rw [Std.Legacy.Range.forIn_eq_forIn_range']
  show wp (forIn (List.range' 0 8 1) PUnit.unit _) _ E ee d acts _
  refine wp_forIn_inv (fun rest U => ∃ i, i ≤ 8 ∧ rest = List.range' i (8 - i) ∧ U = mn_s S cA cI i) _ _ ⟨0, by omega, rfl, rfl⟩ ?_ ?_
  · rintro x rest U d' acts' Q' ⟨i, hi, hr, rfl⟩ hnext
    have hi8 : i < 8 := by
      rcases Nat.lt_or_ge i 8 with h | h
      · exact h
      · rw [show 8 - i = 0 by omega] at hr
        cases hr
    rw [show 8 - i = (8 - (i + 1)) + 1 by omega, List.range'_succ] at hr
    obtain ⟨rfl, hr2⟩ := List.cons.inj hr
    obtain ⟨a1, a2, a3, a4, -, -⟩ := mn_f S cA cI x
    simp only [wp_bind']
    refine mn_one (by rw [a3]; exact hkI) hI hl hm (by rw [a1]; omega) (by rw [a4]; omega) ?_
    simp only [wp_bind', W.writeLoc, wp_pure']
    have q1 : S.heap.size < (mn_s S cA cI x).heap.size := by rw [a1]; omega
    refine ⟨mn_o cA S.heap.size x, (State.heap_pushCell_of_lt _ _ q1).trans a2, (by show VmData.none ≠ VmData.unknown; exact (fun h => VmData.noConfusion h)), (by show x < (arrV cA 8 _).slots.size; rw [arrV_size]; exact hi8), ?_, hnext _ _ _ ⟨x + 1, hi8, hr2, ?_⟩⟩
    · show State.fitsSlot _ cA .none x _ = true
      simp [State.fitsSlot, State.slotType?, a3, hkA, hA]
      rfl
    · rw [a1, mn_os]
      rfl
  · rintro U d' acts' ⟨i, hi, hr, rfl⟩
    have hi8 : i = 8 := by
      rcases Nat.lt_or_ge i 8 with h | h
      · rw [show 8 - i = (8 - (i + 1)) + 1 by omega, List.range'_succ] at hr
        cases hr
      · omega
    subst hi8
    exact hq _ _
end MW
/-- the class of arrays of arrays, and that of its items -/
theorem mn_over {args : Array Value} {s : State} (h : (Cond.arrayOver (.array .long)).before args s = true) : ∃ (cI cA : ClassId) (k : Class), s.vm.findClass "[J" = some cI ∧ s.vm.classes[cA]? = some k ∧ k.kind = .array cI (.array .long) ∧ s.vm.findClass "[[J" = some cA := by
  have e1 : (FieldType.array .long).toString = "[J" := rfl
  simp only [Cond.before, Cond.holds, Cond.value, e1, beq_iff_eq] at h
  obtain ⟨cI, g1, h⟩ := Option.bind_eq_some_iff.mp h
  obtain ⟨cA, g2, h⟩ := Option.bind_eq_some_iff.mp h
  obtain ⟨k, g3, h⟩ := Option.map_eq_some_iff.mp h
  obtain ⟨g4, g5, -⟩ := Array.findIdx?_eq_some_iff_getElem.mp g2
  have g6 : s.vm.classes[cA] = k := (Array.getElem?_eq_some_iff.mp g3).2
  rw [g6] at g5
  cases hk : k.kind with
  | array a b =>
    rw [hk] at h g5
    simp only [Bool.and_eq_true, decide_eq_true_eq, beq_iff_eq] at h g5
    exact ⟨cI, cA, k, g1, g3, by rw [hk, ← g5, h.1], h.2⟩
  | _ => rw [hk] at h; exact absurd (show false = true from h) (by decide)
section MS
variable {p : Program} {l : Launch} {e : Env} {R : Room} {s : State} {m : MethodId} {args : Array Value} {below : List Frame} {meth : Method} {c : Code} {T : State} {locs : List Loc} {cells slots : Nat}
theorem mn_stand (X : Stand p l e R s m args below meth c T locs cells slots) (cA cI : ClassId) : ∀ i, ∃ J : List Loc, (∀ x ∈ J, x.base = T.heap.size) ∧ Stand p l e R s m args below meth c (mn_s T cA cI i) (locs ++ J) (cells + 1 + i) (slots + 8 + 9 * i) := by
  intro i
  induction i with
  | zero =>
    have h := X.pushed (mn_o cA T.heap.size 0)
    rw [show (mn_o cA T.heap.size 0).slots.size = 8 from arrV_size _ _ _] at h
    exact ⟨[], fun x hx => absurd hx List.not_mem_nil, by rw [List.append_nil]; exact h⟩
  | succ i ih =>
    obtain ⟨J, hJ, Y⟩ := ih
    obtain ⟨a1, a2, -, -, -, -⟩ := mn_f T cA cI i
    have q1 : T.heap.size < (mn_s T cA cI i).heap.size := by rw [a1]; omega
    have h := (Y.pushed (arrV cI 9 (fun _ => .long 0))).stored (a := T.heap.size) (cell := mn_o cA T.heap.size i) ((State.heap_pushCell_of_lt _ _ q1).trans a2) i (.ref (T.heap.size + 1 + i))
    rw [mn_os, arrV_size, List.append_assoc] at h
    refine ⟨J ++ [⟨T.heap.size, i⟩], fun x hx => ?_, ?_⟩
    · rcases List.mem_append.mp hx with hx | hx
      · exact hJ x hx
      · rw [List.mem_singleton.mp hx]
    · rw [show slots + 8 + 9 * (i + 1) = slots + 8 + 9 * i + 9 by omega, show cells + 1 + (i + 1) = cells + 1 + i + 1 by omega]
      exact h
/-- the instruction -/
theorem mn_step (X : Stand p l e R s m args below meth c T locs cells slots) (hexec : p.tables.exec = Jvm.exec) {own : String} {index : Nat} (hown : s.vm.findClass own = some m.cls) (hcl : (Cond.classLink own index "[[J").before args s = true) (hov : (Cond.arrayOver (.array .long)).before #[] s = true) (har : (Cond.arrayClass .long).before args s = true)
    {g : JFrame} (hg : g.method = m) (hdg : decode c.code g.pc = .ok (.multianewarray index 2, 4)) {rest : List Value} (hst : g.stack = .int 9 :: .int 8 :: rest) (hc : cells + 9 ≤ R.cells) (hs : slots + 80 ≤ R.slots) :
    ∃ (v1 : Vm) (cA cI : ClassId), s.vm.findClass "[[J" = some cA ∧ s.vm.findClass "[J" = some cI ∧ Stand p l e R s m args below meth c (mn_s (T.setVm v1) cA cI 8) locs (cells + 9) (slots + 80) ∧
      ∀ target, Steps p.tables e below ((mn_s (T.setVm v1) cA cI 8).setTop { g with pc := g.pc + 4, stack := .ref T.heap.size :: rest }) target → Steps p.tables e below (T.setTop g) target := by
  subst hg
  obtain ⟨cI, cA, kA, hfI, hkA, hA, hfA⟩ := mn_over hov
  obtain ⟨cI', kI, cc, hfI', hkI, hI⟩ := Cond.arrayClass_spec har
  cases Option.some.inj (hfI.symm.trans hfI')
  obtain ⟨c0, hf0, hlk⟩ := Cond.classLink_spec hown hcl e.platform (by rw [X.admits.platform])
  cases Option.some.inj (hfA.symm.trans hf0)
  obtain ⟨hg1, hW, -⟩ := State.classEntry (e := e) X.warmed hlk
  generalize T.vm.noted g.method.cls index (.cls cA) = v1 at hg1 hW
  obtain ⟨kA', hkA', eA⟩ := hW.alike.2.2 _ _ hkA
  obtain ⟨kI', hkI', eI⟩ := hW.alike.2.2 _ _ hkI
  have X1 := X.noted hW
  obtain ⟨J, hJ, Y⟩ := mn_stand X1 cA cI 8
  obtain ⟨r1, r2⟩ := X.roomAbove hc hs
  refine ⟨v1, cA, cI, hfA, hfI, Y.dropFresh (fun x hx => by rw [hJ x hx]; exact X.heapGrown), fun target hrest => ?_⟩
  have l1 : 9 ≤ e.platform.arrayLengthLimit := by rw [Launch.admits_arrayLengthLimit X.admits]; decide
  have l2 : 72 ≤ e.platform.maxHeapBytes := by rw [Launch.admits_maxHeapBytes X.admits]; decide
  jvm_step X.here [hexec, hdg]
  simp only [Op.multianewarray.sem, wp_bind', W.resolveClassAt_links (State.method?_setTop g X.here.top) hg1]
  rw [W.popN, if_neg (by decide)]
  refine ⟨g, State.topJava?_setTop' (s := T.setVm v1) g X.here.top, [.int 8, .int 9], rest, rfl, hst, ?_⟩
  simp only [List.mapM_cons, List.mapM_nil, wp_bind', wp_pure']
  refine mn_make (kA := kA') (kI := kI') (cc := cc) hkA' (by rw [eA]; exact hA) hkI' (by rw [eI]; exact hI) l1 l2 (by show T.heap.size + 9 ≤ _; omega) (by show T.slotsUsed + 80 ≤ _; omega) (fun d' acts' => ?_)
  have eS : ((T.setTop g).setVm v1).setTop { g with stack := rest } = (T.setVm v1).setTop { g with stack := rest } := by
    show ((T.setVm v1).setTop g).setTop _ = _
    rw [State.setTop_setTop]
  rw [eS, mn_top]
  simp only [wp_bind', W.mark, W.pushRef, State.topJava?_setTop' _ Y.here.top, Option.some.injEq, exists_eq_left', State.setTop_setTop, State.heap_setTop]
  intro acts
  simp [jvm, Y.here.top]
  exact hrest
end MS
section NM
variable {l : Launch} {e : hv_Ev} {R : Room} {cells slots : Nat} {M : hv_M} {Z : hv_Zt} {pc : Nat} {lo : List (Nat × Value)} {st : List Value} {ws : va_W}
/-- long[8][9] -/
theorem N_mna {idx : Nat} (hd : decode M.2.1 pc = .ok (.multianewarray idx 2, 4)) (hcl : Cond.classLink M.1.cls idx "[[J" ∈ hv_all) (harr : Cond.arrayClass .long ∈ hv_all) (hc : cells + 9 ≤ R.cells) (hs : slots + 80 ≤ R.slots)
    (k : ∀ q, hv_NW l e R (cells + 9) (slots + 80) M Z (pc + 4) lo (.ref q :: st) (ws ++ [(q, .inl (e.2.2.1 3, 8, .inr (.inr (.inr (.inr (fun i => if i < 8 then some (q + 1 + i) else none)))))), (q + 1 + 0, .inl (e.2.2.1 1, 9, .inr (.inl (fun _ => 0)))), (q + 1 + 1, .inl (e.2.2.1 1, 9, .inr (.inl (fun _ => 0)))), (q + 1 + 2, .inl (e.2.2.1 1, 9, .inr (.inl (fun _ => 0)))), (q + 1 + 3, .inl (e.2.2.1 1, 9, .inr (.inl (fun _ => 0)))), (q + 1 + 4, .inl (e.2.2.1 1, 9, .inr (.inl (fun _ => 0)))), (q + 1 + 5, .inl (e.2.2.1 1, 9, .inr (.inl (fun _ => 0)))), (q + 1 + 6, .inl (e.2.2.1 1, 9, .inr (.inl (fun _ => 0)))), (q + 1 + 7, .inl (e.2.2.1 1, 9, .inr (.inl (fun _ => 0))))])) :
    hv_NW l e R cells slots M Z pc lo (.int 9 :: .int 8 :: st) ws := by
  intro p ee s m args below meth c H locs ls hf hn hK hA hP hD hS hl T hT X
  have hts := hf.2.2.2.2.1
  subst hT
  obtain ⟨v1, cA, cI, f1, f2, X1, step⟩ := mn_step X hf.1 hf.2.2.2.1 (hts _ (List.mem_cons_of_mem _ hcl)) hK.2 (hts _ (List.mem_cons_of_mem _ harr)) (g := F0 m pc ls (.int 9 :: .int 8 :: st)) rfl (by rw [hf.2.1]; exact hd) (rest := st) rfl hc hs
  have g1 : some cA = some (e.2.2.1 3) := f1.symm.trans (hK.1.1.2 3 (e.2.2.1 3, .array .long) rfl).2
  have g2 : some cI = some (e.2.2.1 1) := f2.symm.trans (hK.1.1.2 1 (e.2.2.1 1, .long) rfl).2
  cases Option.some.inj g1
  cases Option.some.inj g2
  obtain ⟨z1, z2, z3, z4, hold, hin⟩ := mn_f (T.setVm v1) (e.2.2.1 3) (e.2.2.1 1) 8
  have hin2 : ∀ j : Nat, j < 8 → va_at e.2.1 vwCl (T.heap.size + 1 + j, .inl (e.2.2.1 1, 9, .inr (.inl (fun _ => 0)))) (mn_s (T.setVm v1) (e.2.2.1 3) (e.2.2.1 1) 8).heap := fun j hj => hin j hj
  have hout : mn_o (e.2.2.1 3) T.heap.size 8 = vp_cell (e.2.2.1 3) (8, .inr (.inr (.inr (.inr (fun i => if i < 8 then some (T.heap.size + 1 + i) else none))))) :=
    (show arrV (e.2.2.1 3) 8 (fun j => if j < 8 then .ref (T.heap.size + 1 + j) else .null) = arrV (e.2.2.1 3) 8 (fun j => va_rf (if j < 8 then some (T.heap.size + 1 + j) else none)) from arrV_same (fun j hj => by rw [if_pos hj, if_pos hj]; rfl))
  have hlt : ∀ (i : Nat) (x : Nat × va_E), ws[i]? = some x → x.1 < T.heap.size := fun i x hx => (hP i x hx).lt
  obtain ⟨t, a1, b1⟩ := k T.heap.size p ee s m args below meth c (mn_s (T.setVm v1) (e.2.2.1 3) (e.2.2.1 1) 8).heap locs ls hf hn hK hA
    ((hP.kept (fun i x hx => hold x.1 (hlt i x hx))).app (fun i x hx => by
      have hi : i < 9 := (List.getElem?_eq_some_iff.mp hx).1
      rcases (show i = 0 ∨ i = 1 ∨ i = 2 ∨ i = 3 ∨ i = 4 ∨ i = 5 ∨ i = 6 ∨ i = 7 ∨ i = 8 by omega) with rfl | rfl | rfl | rfl | rfl | rfl | rfl | rfl | rfl
      · cases hx
        exact z2.trans (congrArg some hout)
      · cases hx; exact hin2 0 (by decide)
      · cases hx; exact hin2 1 (by decide)
      · cases hx; exact hin2 2 (by decide)
      · cases hx; exact hin2 3 (by decide)
      · cases hx; exact hin2 4 (by decide)
      · cases hx; exact hin2 5 (by decide)
      · cases hx; exact hin2 6 (by decide)
      · cases hx; exact hin2 7 (by decide)))
    ⟨fun i j x y hx hy hxy => by
      rw [List.getElem?_append] at hx hy
      by_cases ci : i < ws.length
      · rw [if_pos ci] at hx
        by_cases cj : j < ws.length
        · rw [if_pos cj] at hy
          exact hD.1 i j x y hx hy hxy
        · rw [if_neg cj] at hy
          have := hlt i x hx
          have hj : j - ws.length < 9 := (List.getElem?_eq_some_iff.mp hy).1
          rcases (show j - ws.length = 0 ∨ j - ws.length = 1 ∨ j - ws.length = 2 ∨ j - ws.length = 3 ∨ j - ws.length = 4 ∨ j - ws.length = 5 ∨ j - ws.length = 6 ∨ j - ws.length = 7 ∨ j - ws.length = 8 by omega) with e1 | e1 | e1 | e1 | e1 | e1 | e1 | e1 | e1 <;> (rw [e1] at hy; cases hy; exact absurd hxy (by show x.1 ≠ _; simp only; omega))
      · rw [if_neg ci] at hx
        have hi : i - ws.length < 9 := (List.getElem?_eq_some_iff.mp hx).1
        have hx1 : x.1 = T.heap.size + (i - ws.length) := by
          rcases (show i - ws.length = 0 ∨ i - ws.length = 1 ∨ i - ws.length = 2 ∨ i - ws.length = 3 ∨ i - ws.length = 4 ∨ i - ws.length = 5 ∨ i - ws.length = 6 ∨ i - ws.length = 7 ∨ i - ws.length = 8 by omega) with e1 | e1 | e1 | e1 | e1 | e1 | e1 | e1 | e1 <;> (rw [e1] at hx ⊢; cases hx; simp only <;> omega)
        by_cases cj : j < ws.length
        · rw [if_pos cj] at hy
          have := hlt j y hy
          omega
        · rw [if_neg cj] at hy
          have hj : j - ws.length < 9 := (List.getElem?_eq_some_iff.mp hy).1
          have hy1 : y.1 = T.heap.size + (j - ws.length) := by
            rcases (show j - ws.length = 0 ∨ j - ws.length = 1 ∨ j - ws.length = 2 ∨ j - ws.length = 3 ∨ j - ws.length = 4 ∨ j - ws.length = 5 ∨ j - ws.length = 6 ∨ j - ws.length = 7 ∨ j - ws.length = 8 by omega) with e1 | e1 | e1 | e1 | e1 | e1 | e1 | e1 | e1 <;> (rw [e1] at hy ⊢; cases hy; simp only <;> omega)
          omega, fun i x hx => by
      rw [List.getElem?_append] at hx
      by_cases ci : i < ws.length
      · rw [if_pos ci] at hx
        exact hD.2 i x hx
      · rw [if_neg ci] at hx
        have hi : i - ws.length < 9 := (List.getElem?_eq_some_iff.mp hx).1
        refine hA _ ?_
        have := hS.1
        rcases (show i - ws.length = 0 ∨ i - ws.length = 1 ∨ i - ws.length = 2 ∨ i - ws.length = 3 ∨ i - ws.length = 4 ∨ i - ws.length = 5 ∨ i - ws.length = 6 ∨ i - ws.length = 7 ∨ i - ws.length = 8 by omega) with e1 | e1 | e1 | e1 | e1 | e1 | e1 | e1 | e1 <;> (rw [e1] at hx; cases hx; simp only <;> omega)⟩
    ⟨Nat.le_trans hS.1 (by rw [z1]; show T.heap.size ≤ T.heap.size + 1 + 8; omega), fun x h1 h2 => (hold x (Nat.lt_of_lt_of_le h1 hS.1)).trans (hS.2.1 x h1 h2), hS.2.2⟩ hl _ rfl X1
  exact ⟨t, step t a1, b1⟩
end NM
