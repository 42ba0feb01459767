-- MAKING: a constructor's frame, over a list of cells
/-- what is known of texts, with less that may be written, and other places -/
theorem hv_K.narrow {E E' : hv_E} {U : State} {H : Heap} (h : hv_K E U H) (hD : hv_D E' = hv_D E) (hT : hv_T E' = hv_T E) (ha : ∀ k, 1000 ≤ k → hv_al E' k = hv_al E k) (hAB : ∀ q, hv_A E' q → hv_A E q) : hv_K E' U H := by
  obtain ⟨g1, g2, g3, g4, g5, g6⟩ := h
  have a1 : (fun i => hv_al E' (1000 + i)) = fun i => hv_al E (1000 + i) := funext (fun i => ha _ (by omega))
  have a2 : (fun i => hv_al E' (2000 + i)) = fun i => hv_al E (2000 + i) := funext (fun i => ha _ (by omega))
  refine ⟨by unfold hv_tys; rw [hD, hT]; exact g1, g2, fun i hi => by rw [ha _ (by omega)]; exact g3 i hi, ?_, g5.narrow hAB, ?_⟩
  · rw [a1, a2]; exact g4.narrow hAB
  · rw [ha _ (by decide)]; exact g6.imp (fun g => g.narrow hAB) (fun g => g.narrow hAB)
/-- and what is known of arrays of arrays -/
def hv_KN (e : hv_Ev) (U : State) (H : Heap) : Prop := hv_K (hv_e1 e) U H ∧ (Cond.arrayOver (.array .long)).before #[] U = true
theorem hv_KN.moved {e : hv_Ev} {s U : State} {H H1 : Heap} (h : hv_KN e s H) (hW : s.WarmedH U.vm) (hq : ∀ a : Nat, a < H.size → ¬ e.2.2.2 a → H1[a]? = H[a]?) : hv_KN e U H1 := ⟨h.1.moved hW hq, over_moved hW.alike h.2⟩
theorem hv_KN.narrow {e : hv_Ev} {B : Nat → Prop} {U : State} {H : Heap} (h : hv_KN e U H) (hAB : ∀ q, B q → e.2.2.2 q) : hv_KN (e.1, e.2.1, e.2.2.1, B) U H := ⟨h.1.narrow rfl rfl (fun _ _ => rfl) hAB, h.2⟩
def hv_NW (l : Launch) (e : hv_Ev) (R : Room) (cells slots : Nat) (M : hv_M) (Z : hv_Zt) (pc : Nat) (lo : List (Nat × Value)) (st : List Value) (ws : va_W) : Prop :=
  ∀ (p : Program) (ee : Env) (s : State) (m : MethodId) (args : Array Value) (below : List Frame) (meth : Method) (c : Code) (H : Heap) (locs : List Loc) (ls : Array Slot),
    hv_fix p s m args meth c M → (M.1.name = "<init>" → meth.name = "<init>") → hv_KN e s s.heap → (∀ q : Nat, s.heap.size ≤ q → e.2.2.2 q) → va_P e.2.1 vwCl ws H → va_D e.2.2.2 ws → va_S e.2.2.2 s.heap H locs → lv_has ls M.2.2.1 lo →
    W p l ee R s m args below meth c H locs cells slots (Z below args s) (F0 m pc ls st)
/-- a field of one's own: its class ci, its place j, whether it's final, its type -/
def hv_FO (own : String) (idx ci j : Nat) (fin : Bool) (fty : FieldType) : Prop := ∃ (T : u_T) (N : Nat) (ty : Nat → FieldType), vwCl[ci]? = some (own, T, N) ∧ j < N ∧ (∀ w ∈ u_ws own T N, w ∈ hv_all) ∧ (T j).1 = own ∧ (∀ k, k < N → parseFieldDescriptor (T k).2.2.1 = some (ty k)) ∧
  (∀ a, a < N → ∀ b, b < N → a ≠ b → (T a).2.1 ≠ (T b).2.1) ∧ Cond.fieldLink own idx own (T j).2.1 (T j).2.2.1 ∈ hv_all ∧ (T j).2.2.2 = fin ∧ parseFieldDescriptor (T j).2.2.1 = some fty
section NR
variable {l : Launch} {e : hv_Ev} {R : Room} {cells slots : Nat} {M : hv_M} {Z : hv_Zt} {pc : Nat} {lo : List (Nat × Value)} {st : List Value} {ws : va_W}
theorem N_aload_n {n : Fin 4} {i : Nat} {x : Nat} (hd : decode M.2.1 pc = .ok (.aload_n n, 1)) (hi : (n : Nat) = i) (j : Nat) (hj : lo[j]? = some (i, .ref x)) (k : hv_NW l e R cells slots M Z (pc + 1) lo (.ref x :: st) ws) : hv_NW l e R cells slots M Z pc lo st ws := by
  intro p ee s m args below meth c H locs ls hf hn hK hA hP hD hS hl
  exact lv_aload_n hf.1 hf.2.1 hd hi (lv_at hl j hj) (k p ee s m args below meth c H locs ls hf hn hK hA hP hD hS hl)
theorem N_aload {i : Nat} {x : Nat} (hd : decode M.2.1 pc = .ok (.aload i, 2)) (j : Nat) (hj : lo[j]? = some (i, .ref x)) (k : hv_NW l e R cells slots M Z (pc + 2) lo (.ref x :: st) ws) : hv_NW l e R cells slots M Z pc lo st ws := by
  intro p ee s m args below meth c H locs ls hf hn hK hA hP hD hS hl
  exact lv_aload hf.1 hf.2.1 hd (lv_at hl j hj) (k p ee s m args below meth c H locs ls hf hn hK hA hP hD hS hl)
theorem N_iconst {n : Int} {v : Int32} (hd : decode M.2.1 pc = .ok (.iconst n, 1)) (hv : Int32.ofInt n = v) (k : hv_NW l e R cells slots M Z (pc + 1) lo (.int v :: st) ws) : hv_NW l e R cells slots M Z pc lo st ws := by
  intro p ee s m args below meth c H locs ls hf hn hK hA hP hD hS hl
  exact lv_iconst hf.1 hf.2.1 hd hv (k p ee s m args below meth c H locs ls hf hn hK hA hP hD hS hl)
theorem N_bipush {n : Int} {v : Int32} (hd : decode M.2.1 pc = .ok (.bipush n, 2)) (hv : (Int8.ofInt n).toInt32 = v) (k : hv_NW l e R cells slots M Z (pc + 2) lo (.int v :: st) ws) : hv_NW l e R cells slots M Z pc lo st ws := by
  intro p ee s m args below meth c H locs ls hf hn hK hA hP hD hS hl
  exact lv_bipush hf.1 hf.2.1 hd hv (k p ee s m args below meth c H locs ls hf hn hK hA hP hD hS hl)
theorem N_sipush {n : Int} {v : Int32} (hd : decode M.2.1 pc = .ok (.sipush n, 3)) (hv : (Int16.ofInt n).toInt32 = v) (k : hv_NW l e R cells slots M Z (pc + 3) lo (.int v :: st) ws) : hv_NW l e R cells slots M Z pc lo st ws := by
  intro p ee s m args below meth c H locs ls hf hn hK hA hP hD hS hl
  exact lv_sipush hf.1 hf.2.1 hd hv (k p ee s m args below meth c H locs ls hf hn hK hA hP hD hS hl)
theorem N_lconst {n : Fin 2} {v : Int64} (hd : decode M.2.1 pc = .ok (.lconst n, 1)) (hv : Int64.ofNat (n : Nat) = v) (k : hv_NW l e R cells slots M Z (pc + 1) lo (.long v :: st) ws) : hv_NW l e R cells slots M Z pc lo st ws := by
  intro p ee s m args below meth c H locs ls hf hn hK hA hP hD hS hl
  exact lv_lconst hf.1 hf.2.1 hd hv (k p ee s m args below meth c H locs ls hf hn hK hA hP hD hS hl)
theorem N_dup {v : Value} (hd : decode M.2.1 pc = .ok (.dup, 1)) (hv : v.category = 1) (k : hv_NW l e R cells slots M Z (pc + 1) lo (v :: v :: st) ws) : hv_NW l e R cells slots M Z pc lo (v :: st) ws := by
  intro p ee s m args below meth c H locs ls hf hn hK hA hP hD hS hl
  exact lv_dup hf.1 hf.2.1 hd hv (k p ee s m args below meth c H locs ls hf hn hK hA hP hD hS hl)
theorem N_objInit {idx a : Nat} (hd : decode M.2.1 pc = .ok (.invokespecial idx, 3)) (h1 : Cond.methodLink M.1.cls idx Lib.objectInit ∈ hv_all) (h2 : Cond.instanceMethod Lib.objectInit ∈ hv_all) (h3 : Cond.code Lib.objectInit ⟨#[0xb1]⟩ 1 none ∈ hv_all) (hfr : 1 ≤ R.frames) (hlo : (st.map fun v => v.category).sum + 12 ≤ R.locals)
    (k : hv_NW l e R cells slots M Z (pc + 3) lo st ws) : hv_NW l e R cells slots M Z pc lo (.ref a :: st) ws := by
  intro p ee s m args below meth c H locs ls hf hn hK hA hP hD hS hl
  have hts := hf.2.2.2.2.1
  refine W.objInit hf.1 hf.2.1 hf.2.2.2.1 (hts _ (List.mem_cons_of_mem _ h1)) (hts _ (List.mem_cons_of_mem _ h2)) (hts _ (List.mem_cons_of_mem _ h3)) rfl (by rw [hf.2.2.1]; exact hl.1) rfl hd hfr (by show 2 * 0 + _ + 12 ≤ _; omega) ?_
  exact W.eq (g2 := F0 m (pc + 3) ls st) rfl (k p ee s m args below meth c H locs ls hf hn hK hA hP hD hS hl)
theorem N_newi {n : Int32} {N' : Nat} (hd : decode M.2.1 pc = .ok (.newarray .int, 2)) (harr : Cond.arrayClass .int ∈ hv_all) (hn0 : ¬ n < 0) (hN : n.toNatClampNeg = N') (hb : N' * 4 ≤ 536870912) (hc : cells + 1 ≤ R.cells) (hs : slots + N' ≤ R.slots)
    (k : ∀ q, hv_NW l e R (cells + 1) (slots + N') M Z (pc + 2) lo (.ref q :: st) (ws ++ [(q, .inl (e.2.2.1 0, N', .inl (fun _ => 0)))])) : hv_NW l e R cells slots M Z pc lo (.int n :: st) ws := by
  intro p ee s m args below meth c H locs ls hf hn hK hA hP hD hS hl
  refine va_newa (atype := .int) (ty := .int) (a0 := (N', .inl (fun _ => 0))) hf.1 hf.2.1 (hf.2.2.2.2.1 _ (List.mem_cons_of_mem _ harr)) rfl hK.1.1 hP hD hS hA (fun cA => rfl) hn0 hN hb hc hs hd (fun q cA H1 hK1 hP1 hD1 hS1 => ?_)
  have e1 : s.vm.findClass "[I" = some cA := (hK1.2 4 (cA, .int) rfl).2
  have e2 : s.vm.findClass "[I" = some (e.2.2.1 0) := (hK.1.1.2 0 (e.2.2.1 0, .int) rfl).2
  have e3 : cA = e.2.2.1 0 := Option.some.inj (e1.symm.trans e2)
  rw [e3] at hP1 hD1
  exact k q p ee s m args below meth c H1 locs ls hf hn hK hA hP1 hD1 hS1 hl
theorem N_newl {n : Int32} {N' : Nat} (hd : decode M.2.1 pc = .ok (.newarray .long, 2)) (harr : Cond.arrayClass .long ∈ hv_all) (hn0 : ¬ n < 0) (hN : n.toNatClampNeg = N') (hb : N' * 8 ≤ 536870912) (hc : cells + 1 ≤ R.cells) (hs : slots + N' ≤ R.slots)
    (k : ∀ q, hv_NW l e R (cells + 1) (slots + N') M Z (pc + 2) lo (.ref q :: st) (ws ++ [(q, .inl (e.2.2.1 1, N', .inr (.inl (fun _ => 0))))])) : hv_NW l e R cells slots M Z pc lo (.int n :: st) ws := by
  intro p ee s m args below meth c H locs ls hf hn hK hA hP hD hS hl
  refine va_newa (atype := .long) (ty := .long) (a0 := (N', .inr (.inl (fun _ => 0)))) hf.1 hf.2.1 (hf.2.2.2.2.1 _ (List.mem_cons_of_mem _ harr)) rfl hK.1.1 hP hD hS hA (fun cA => rfl) hn0 hN hb hc hs hd (fun q cA H1 hK1 hP1 hD1 hS1 => ?_)
  have e1 : s.vm.findClass "[J" = some cA := (hK1.2 4 (cA, .long) rfl).2
  have e2 : s.vm.findClass "[J" = some (e.2.2.1 1) := (hK.1.1.2 1 (e.2.2.1 1, .long) rfl).2
  have e3 : cA = e.2.2.1 1 := Option.some.inj (e1.symm.trans e2)
  rw [e3] at hP1 hD1
  exact k q p ee s m args below meth c H1 locs ls hf hn hK hA hP1 hD1 hS1 hl
theorem N_newz {n : Int32} {N' : Nat} (hd : decode M.2.1 pc = .ok (.newarray .boolean, 2)) (harr : Cond.arrayClass .boolean ∈ hv_all) (hn0 : ¬ n < 0) (hN : n.toNatClampNeg = N') (hb : N' * 1 ≤ 536870912) (hc : cells + 1 ≤ R.cells) (hs : slots + N' ≤ R.slots)
    (k : ∀ q, hv_NW l e R (cells + 1) (slots + N') M Z (pc + 2) lo (.ref q :: st) (ws ++ [(q, .inl (e.2.2.1 2, N', .inl (fun _ => 0)))])) : hv_NW l e R cells slots M Z pc lo (.int n :: st) ws := by
  intro p ee s m args below meth c H locs ls hf hn hK hA hP hD hS hl
  refine va_newa (atype := .boolean) (ty := .boolean) (a0 := (N', .inl (fun _ => 0))) hf.1 hf.2.1 (hf.2.2.2.2.1 _ (List.mem_cons_of_mem _ harr)) rfl hK.1.1 hP hD hS hA (fun cA => rfl) hn0 hN hb hc hs hd (fun q cA H1 hK1 hP1 hD1 hS1 => ?_)
  have e1 : s.vm.findClass "[Z" = some cA := (hK1.2 4 (cA, .boolean) rfl).2
  have e2 : s.vm.findClass "[Z" = some (e.2.2.1 2) := (hK.1.1.2 2 (e.2.2.1 2, .boolean) rfl).2
  have e3 : cA = e.2.2.1 2 := Option.some.inj (e1.symm.trans e2)
  rw [e3] at hP1 hD1
  exact k q p ee s m args below meth c H1 locs ls hf hn hK hA hP1 hD1 hS1 hl
theorem N_put {idx ci j a : Nat} {fin : Bool} {fty : FieldType} {fs : List Value} {v : Value} (hd : decode M.2.1 pc = .ok (.putfield idx, 3)) (fo : hv_FO M.1.cls idx ci j fin fty) (q0 : Nat) (he : ws[q0]? = some (a, .inr (ci, fs))) (hn1 : narrow fty v = v) (hfit : fits fty v = true) (hj : j < fs.length) (hin : fin = true → M.1.name = "<init>")
    (k : hv_NW l e R cells slots M Z (pc + 3) lo st (ws.set q0 (a, .inr (ci, fs.set j v)))) : hv_NW l e R cells slots M Z pc lo (v :: .ref a :: st) ws := by
  intro p ee s m args below meth c H locs ls hf hn hK hA hP hD hS hl
  obtain ⟨T, N, ty, h1, h2, h3, h4, h5, h6, h7, h8, h9⟩ := fo
  have kk : ∀ (H1 : Heap) (locs1 : List Loc), va_P e.2.1 vwCl (ws.set q0 (a, .inr (ci, fs.set j v))) H1 → va_D e.2.2.2 (ws.set q0 (a, .inr (ci, fs.set j v))) → va_S e.2.2.2 s.heap H1 locs1 → W p l ee R s m args below meth c H1 locs1 cells slots (Z below args s) (F0 m (pc + 3) ls st) := fun H1 locs1 k1 k2 k3 => k p ee s m args below meth c H1 locs1 ls hf hn hK hA k1 k2 k3 hl
  have hts := hf.2.2.2.2.1
  cases fin with
  | true => exact va_putF (C := M.1.cls) (T := T) (N := N) (ty := fty) hf.1 hf.2.1 hts (fun w hw => List.mem_cons_of_mem _ (h3 w hw)) ty h5 h6 hf.2.2.2.1 hK.1.1 hP hD hS q0 he h1 j h2 (hts _ (List.mem_cons_of_mem _ h7)) (fun x hx => by rw [h4] at hx; exact hx) h8 (hn (hin rfl)) h4 h9 hn1 hfit hj hd kk
  | false => exact va_put (C := M.1.cls) (T := T) (N := N) (ty := fty) hf.1 hf.2.1 hts (fun w hw => List.mem_cons_of_mem _ (h3 w hw)) ty h5 h6 hf.2.2.2.1 hK.1.1 hP hD hS q0 he h1 j h2 (hts _ (List.mem_cons_of_mem _ h7)) (fun x hx => by rw [h4] at hx; exact hx) h8 h9 hn1 hfit hj hd kk
theorem N_get {idx ci j a : Nat} {fin : Bool} {fty : FieldType} {fs : List Value} {v : Value} (hd : decode M.2.1 pc = .ok (.getfield idx, 3)) (fo : hv_FO M.1.cls idx ci j fin fty) (q0 : Nat) (he : ws[q0]? = some (a, .inr (ci, fs))) (hj : fs[j]? = some v)
    (k : hv_NW l e R cells slots M Z (pc + 3) lo (v :: st) ws) : hv_NW l e R cells slots M Z pc lo (.ref a :: st) ws := by
  intro p ee s m args below meth c H locs ls hf hn hK hA hP hD hS hl
  obtain ⟨T, N, ty, h1, h2, h3, h4, h5, h6, h7, h8, h9⟩ := fo
  have hts := hf.2.2.2.2.1
  exact va_get (C := M.1.cls) (T := T) (N := N) hf.1 hf.2.1 hts (fun w hw => List.mem_cons_of_mem _ (h3 w hw)) hf.2.2.2.1 hK.1.1 hP q0 he h1 j h2 (hts _ (List.mem_cons_of_mem _ h7)) (fun x hx => by rw [h4] at hx; exact hx) hj hd (k p ee s m args below meth c H locs ls hf hn hK hA hP hD hS hl)
theorem N_iast {a n : Nat} {f : Nat → Int32} {i x : Int32} (hd : decode M.2.1 pc = .ok (.iastore, 1)) (q0 : Nat) (he : ws[q0]? = some (a, .inl (e.2.2.1 0, n, .inl f))) (hin : vp_in i n)
    (k : hv_NW l e R cells slots M Z (pc + 1) lo st (ws.set q0 (a, .inl (e.2.2.1 0, n, .inl (upd f i.toNatClampNeg x))))) : hv_NW l e R cells slots M Z pc lo (.int x :: .int i :: .ref a :: st) ws := by
  intro p ee s m args below meth c H locs ls hf hn hK hA hP hD hS hl
  exact va_iast hf.1 hf.2.1 hK.1.1 hP hD hS q0 0 he rfl hin hd (fun H1 locs1 h1 h2 h3 => k p ee s m args below meth c H1 locs1 ls hf hn hK hA h1 h2 h3 hl)
theorem N_new {idx ci : Nat} {C : String} {T : u_T} {N : Nat} {ty : Nat → FieldType} {fs : List Value} (hd : decode M.2.1 pc = .ok (.new idx, 3)) (h1 : vwCl[ci]? = some (C, T, N)) (h3 : ∀ w ∈ u_ws C T N, w ∈ hv_all) (h5 : ∀ k, k < N → parseFieldDescriptor (T k).2.2.1 = some (ty k)) (hcl : Cond.classLink M.1.cls idx C ∈ hv_all) (hin : Cond.instantiable C N ∈ hv_all) (hini : Cond.initialized C ∈ hv_all)
    (hfs : ∀ j, j < N → defaultValue (ty j) = vp_V fs j) (hc : cells + 1 ≤ R.cells) (hs : slots + N ≤ R.slots) (k : ∀ q, hv_NW l e R (cells + 1) (slots + N) M Z (pc + 3) lo (.ref q :: st) (ws ++ [(q, .inr (ci, fs))])) : hv_NW l e R cells slots M Z pc lo st ws := by
  intro p ee s m args below meth c H locs ls hf hn hK hA hP hD hS hl
  have hts := hf.2.2.2.2.1
  exact va_new (C := C) (T := T) (N := N) (fs := fs) hf.1 hf.2.1 hts (fun w hw => List.mem_cons_of_mem _ (h3 w hw)) ty h5 hf.2.2.2.1 (hts _ (List.mem_cons_of_mem _ hcl)) (hts _ (List.mem_cons_of_mem _ hin)) (hts _ (List.mem_cons_of_mem _ hini)) hK.1.1 hP hD hS hA h1 hfs hc hs hd (fun q H1 k1 k2 k3 => k q p ee s m args below meth c H1 locs ls hf hn hK hA k1 k2 k3 hl)
end NR
/-- a constructor's contract: of the object at q -/
def hv_CN (l : Launch) (e : hv_Ev) (d mc ms : Nat) (M : hv_M) (q : Nat) (As : List Value) (ci : Nat) (fs : List Value) (post : (Nat → Nat) → va_W) : Prop :=
  ∀ sz, Met l M.1 (hv_w M) { frames := d, cells := mc, slots := ms, locals := 40 * d } (va_Pc (.ref q :: As) (fun U => U.heap.size = sz ∧ va_P e.2.1 vwCl [(q, .inr (ci, fs))] U.heap ∧ hv_KN (e.1, e.2.1, e.2.2.1, va_A [(q, .inr (ci, fs))] sz) U U.heap))
    (va_Qv (fun _ : Nat → Nat => True) (fun qs U => va_P e.2.1 vwCl (post qs) U.heap ∧ va_D (va_A [(q, .inr (ci, fs))] sz) (post qs)) (va_A [(q, .inr (ci, fs))] sz)) mc ms (va_A [(q, .inr (ci, fs))] sz)
def hv_ZN (e : hv_Ev) (mc ms : Nat) (post : (Nat → Nat) → va_W) (A : Nat → Prop) : hv_Zt := fun below args s => MQ below (va_Qv (fun _ : Nat → Nat => True) (fun qs U => va_P e.2.1 vwCl (post qs) U.heap ∧ va_D A (post qs)) A) args s mc ms A
section NE
variable {l : Launch} {e : hv_Ev} {mc ms d : Nat} {M : hv_M} {post : (Nat → Nat) → va_W}
theorem N_entry {q ci : Nat} {As : List Value} {fs : List Value} (hy : plainName M.1.cls = true) (hr : M.2.2.2 = none) (hn : (lg_sl (.ref q :: As)).length ≤ M.2.2.1)
    (h : ∀ A, hv_NW l (e.1, e.2.1, e.2.2.1, A) { frames := d, cells := mc, slots := ms, locals := 40 * d } 0 0 M (hv_ZN e mc ms post A) 0 (lv_args 0 (.ref q :: As)) [] [(q, .inr (ci, fs))]) : hv_CN l e d mc ms M q As ci fs post := by
  intro sz
  refine Met.ofW (cc := M.2.1) (maxL := M.2.2.1) (ret := M.2.2.2) hy rfl ?_
  intro p ee s m args below meth c s₁ B hml hv
  obtain ⟨rfl, hsz, hP, hK⟩ := hv
  subst hsz
  rw [lg_entry_eq]
  have hl := lv_entry (.ref q :: As) (n := M.2.2.1) hn
  refine h (va_A [(q, .inr (ci, fs))] s.heap.size) p ee s m _ below meth c s.heap [] _ ⟨B.exec, B.bytes, hml, findClass_of_methodNamed B.named, atoms_spec (ws := hv_w M) B.pre, B.returns, B.notSynchronized⟩ (fun hin => (name_of_methodNamed B.named B.method).1.trans hin) hK (fun q h => Or.inr h) hP ⟨fun i j p1 q1 h1 h2 _ => ?_, fun k q1 hk => Or.inl ⟨k, q1.2, hk⟩⟩ va_S.rf hl
  have z1 : i < 1 := (List.getElem?_eq_some_iff.mp h1).1
  have z2 : j < 1 := (List.getElem?_eq_some_iff.mp h2).1
  omega
theorem N_ret {R : Room} {A : Nat → Prop} {pc : Nat} {lo : List (Nat × Value)} {ws : va_W} {cells slots : Nat} (hd : decode M.2.1 pc = .ok (.return_, 1)) (hr : M.2.2.2 = none) (hc : cells = mc) (hs : slots = ms) (qs : Nat → Nat) (hw : post qs = ws) : hv_NW l (e.1, e.2.1, e.2.2.1, A) R cells slots M (hv_ZN e mc ms post A) pc lo [] ws := by
  intro p ee s m args below meth c H locs ls hf hn hK hA hP hD hS hl
  subst hc hs hw
  exact W.vret hf.1 hf.2.1 (hf.2.2.2.2.2.1.trans hr) (fun t ht hW => ⟨⟨qs, rfl, trivial, by rw [ht]; exact hP, hD⟩, hS.F ht⟩) hS.2.2 hd hf.2.2.2.2.2.2
end NE
-- calls of constructors, and fills
section NC
variable {l : Launch} {e : hv_Ev} {R : Room} {cells slots : Nat} {M : hv_M} {Z : hv_Zt} {pc : Nat} {lo : List (Nat × Value)} {st : List Value} {ws : va_W}
theorem arrV_same {cI : ClassId} {N : Nat} {f g : Nat → Value} (h : ∀ j, j < N → f j = g j) : arrV cI N f = arrV cI N g := by
  unfold arrV
  rw [show (fun j : Fin N => f j.val) = fun j : Fin N => g j.val from funext (fun j => h j.val j.isLt)]
theorem N_fill {idx n q : Nat} {f : Nat → Int32} {v : Int32} (hd : decode M.2.1 pc = .ok (.invokestatic idx, 3)) (ms : hv_MS M.1.cls idx m_J7_fill_53178 2) (hst : (st.map fun v => v.category).sum ≤ 8) (ok : hv_ok R cells slots 0 m_J7_fill_53178) (q0 : Nat) (he : ws[q0]? = some (q, .inl (e.2.2.1 0, n, .inl f))) (hn : n < 2 ^ 31)
    (k : hv_NW l e R cells slots M Z (pc + 3) lo st (ws.set q0 (q, .inl (e.2.2.1 0, n, .inl (fun _ => v))))) : hv_NW l e R cells slots M Z pc lo (.int v :: .ref q :: st) ws := by
  intro p ee s m args below meth c H locs ls hf hn0 hK hA hP hD hS hl
  obtain ⟨E1, hE1⟩ : ∃ E1 : hv_E, E1 = (fun _ => .inr (0, n), [0], fun k => if k = 0 then q else e.1 k, e.2.1, e.2.2.1, fun x => x = q) := ⟨_, rfl⟩
  obtain ⟨σ0, hσ0⟩ : ∃ σ0 : hv_S, σ0 = (fun _ j => f j, fun _ _ => 0, fun _ _ => 0) := ⟨_, rfl⟩
  have hc : hv_CV l E1 0 m_J7_fill_53178 [.ref 0, .int v] σ0 (fun σ' => ∀ j, j < n → σ'.1 0 j = v) := by
    rw [hE1]; exact j_fill (p := 0) (List.mem_singleton.mpr rfl) rfl hn (fun σ' h1 _ _ => h1)
  have hqA : e.2.2.2 q := hD.2 q0 _ he
  have hP1 : hv_P E1 σ0 H := by
    rw [hE1, hσ0]
    refine ⟨fun k x hx => ?_, fun i j p1 q1 h1 h2 _ => ?_, fun k x hx => ?_⟩
    · have z1 : k < 1 := (List.getElem?_eq_some_iff.mp hx).1
      rw [show k = 0 by omega] at hx
      cases hx
      exact hP q0 _ he
    · have z1 : i < 1 := (List.getElem?_eq_some_iff.mp h1).1
      have z2 : j < 1 := (List.getElem?_eq_some_iff.mp h2).1
      omega
    · have z1 : k < 1 := (List.getElem?_eq_some_iff.mp hx).1
      rw [show k = 0 by omega] at hx
      cases hx
      rfl
  have hal : hv_al E1 0 = q := by rw [hE1]; rfl
  have hAq : ∀ x, hv_A E1 x → x = q := fun x hx => by rw [hE1] at hx; exact hx
  have hKU : ∀ U : State, U.heap = H → s.WarmedH U.vm → hv_K E1 U U.heap := fun U hU hW => by
    have h1 := hK.1.moved hW (H1 := U.heap) (by rw [hU]; exact hS.2.1)
    rw [hE1]
    exact h1.narrow rfl rfl (fun k hk => if_neg (by omega)) (fun x (hx : x = q) => by rw [hx]; exact hqA)
  obtain ⟨⟨w1, w2, w3⟩, w4, w7⟩ := ms
  have hts := hf.2.2.2.2.1
  have hb : ∀ w ∈ hv_all, w.before args s = true := fun w hw => hts w (List.mem_cons_of_mem _ hw)
  have hpre : PreS s H (hv_Pc E1 [.ref 0, .int v] σ0) [.ref q, .int v] := ⟨hv_Pc_blind, fun U hU hW => ⟨by rw [← hal]; rfl, by rw [hU]; exact hP1, hKU U hU hW⟩⟩
  have hgo : va_Run p l ee R s m args below meth c H locs cells slots 0 0 (F0 m pc ls (.int v :: .ref q :: st)) st (va_Qv (fun σ' : hv_S => ∀ j, j < n → σ'.1 0 j = v) (hv_B E1) (hv_A E1) #[.ref q, .int v]) (hv_A E1) := by
    rcases w7 with w7 | ⟨host, w7⟩
    · exact va_runS (As := [.ref q, .int v]) (rest := st) (Ts := hv_w M) ⟨hf.1, hf.2.1, hf.2.2.1, hf.2.2.2.1, hts⟩ hc ⟨callB_of 2 hts (hv_goodIn w1) rfl rfl rfl (hb _ w3) (hb _ w7) w2 ⟨ok.1, ok.2.1⟩, hb _ w4⟩ hpre rfl rfl hl.1 rfl (lv_room hst) hd ⟨ok.2.2.1, ok.2.2.2⟩
    · exact va_runSN (As := [.ref q, .int v]) (rest := st) (Ts := hv_w M) ⟨hf.1, hf.2.1, hf.2.2.1, hf.2.2.2.1, hts⟩ hc ⟨va_cnB 2 hts (hv_goodIn w1) rfl rfl rfl (hK.1.2.1 _ w7) (hb _ w3) w2 ⟨ok.1, ok.2.1⟩, hb _ w4, trivial⟩ hpre rfl rfl hl.1 rfl (lv_room hst) hd ⟨ok.2.2.1, ok.2.2.2⟩
  refine va_callv hgo hS (fun x _ hx => by rw [hAq x hx]; exact hqA) (fun x hx => by rw [hAq x hx]; exact hqA) (fun u t H1 locs1 ht hvm hw hB hz hk hS1 => ?_)
  refine k p ee s m args below meth c H1 locs1 ls hf hn0 hK hA ?_ (hD.set he) hS1 hl
  intro i x hx
  rw [List.getElem?_set] at hx
  by_cases ci : q0 = i
  · rw [if_pos ci] at hx
    split at hx
    · cases hx
      have hB1 : hv_P E1 u t.heap := hB
      rw [hE1] at hB1
      rw [← ht]
      have h5 : t.heap[q]? = some (vp_cell (e.2.2.1 0) (n, .inl (u.1 0))) := hB1.1 0 _ rfl
      show t.heap[q]? = some (vp_cell (e.2.2.1 0) (n, .inl (fun _ => v)))
      rw [h5]
      exact congrArg some (show vp_cell (e.2.2.1 0) (n, .inl (u.1 0)) = vp_cell (e.2.2.1 0) (n, .inl (fun _ => v)) from arrV_same (f := fun j => .int (u.1 0 j)) (g := fun _ => .int v) (fun j hj => by rw [hw j hj]))
    · cases hx
  · rw [if_neg ci] at hx
    have hold := hP i x hx
    refine hold.kept (hk x.1 hold.lt (fun z => ci ?_))
    exact (hD.1 i q0 x _ hx he (hAq _ z)).symm
theorem rng_map (wr : va_W) (x : Nat × va_E) : (List.range wr.length).map (fun i => (wr ++ [x])[i]?) = wr.map some := by
  refine List.ext_getElem? (fun i => ?_)
  rw [List.getElem?_map, List.getElem?_map]
  by_cases c : i < wr.length
  · rw [List.getElem?_range c, List.getElem?_eq_getElem c]
    show some ((wr ++ [x])[i]?) = some (some wr[i])
    rw [List.getElem?_append_left c, List.getElem?_eq_getElem c]
  · rw [List.getElem?_eq_none (by simp; omega), List.getElem?_eq_none (by omega)]; rfl
theorem N_ctor {idx d mc ms q ci n : Nat} {M' : hv_M} {As : List Value} {fs : List Value} {post : (Nat → Nat) → va_W} {wr : va_W} (hd : decode M.2.1 pc = .ok (.invokespecial idx, 3)) (mw : hv_MW M' n) (hret : M'.2.2.2 = none) (hnm : M'.1.name = "<init>") (hi : Cond.instanceMethod M'.1 ∈ hv_all) (hl0 : Cond.methodLink M.1.cls idx M'.1 ∈ hv_all ∨ ∃ host, Cond.methodLinkNest M.1.cls idx M'.1 host ∈ hv_nst)
    (hc : hv_CN l e d mc ms M' q As ci fs post) (hn : As.length = n) (hst : (st.map fun v => v.category).sum ≤ 8) (ok : d + 1 ≤ R.frames ∧ 8 + (M'.2.2.1 + 11) + 40 * d ≤ R.locals ∧ cells + mc ≤ R.cells ∧ slots + ms ≤ R.slots) (hnd : va_nd (List.range wr.length) = true) {st0 : List Value} (h0 : As.reverse ++ .ref q :: st = st0)
    (k : ∀ qs, hv_NW l e R (cells + mc) (slots + ms) M Z (pc + 3) lo st (wr ++ post qs)) : hv_NW l e R cells slots M Z pc lo st0 (wr ++ [(q, .inr (ci, fs))]) := by
  intro p ee s m args below meth c H locs ls hf hn0 hK hA hP hD hS hl
  subst h0
  obtain ⟨w1, w2, w3⟩ := mw
  rw [hret] at w1
  have hts := hf.2.2.2.2.1
  have hb : ∀ w ∈ hv_all, w.before args s = true := fun w hw => hts w (List.mem_cons_of_mem _ hw)
  have hat : (wr ++ [(q, .inr (ci, fs))])[wr.length]? = some (q, .inr (ci, fs)) := by rw [List.getElem?_append_right (Nat.le_refl _), Nat.sub_self]; rfl
  have hC : [wr.length].map (fun i => (wr ++ [(q, (.inr (ci, fs) : va_E))])[i]?) = [(q, (.inr (ci, fs) : va_E))].map some := by
    show [(wr ++ [(q, (.inr (ci, fs) : va_E))])[wr.length]?] = [some (q, .inr (ci, fs))]
    rw [hat]
  have hF := va_free (wc := [(q, .inr (ci, fs))]) hD hS hA [wr.length] hC
  have hPc : va_P e.2.1 vwCl [(q, .inr (ci, fs))] H := fun k x hx => by
    have z1 : k < 1 := (List.getElem?_eq_some_iff.mp hx).1
    rw [show k = 0 by omega] at hx
    cases hx
    exact hP _ _ hat
  have hcz := hc H.size
  have hpre : PreS s H (va_Pc (.ref q :: As) (fun U => U.heap.size = H.size ∧ va_P e.2.1 vwCl [(q, .inr (ci, fs))] U.heap ∧ hv_KN (e.1, e.2.1, e.2.2.1, va_A [(q, .inr (ci, fs))] H.size) U U.heap)) (.ref q :: As) :=
    ⟨fun a U g mk z => ⟨z.1, z.2.1, z.2.2.1, hv_K.same (s := U) (U := U.calling g mk a) z.2.2.2.1 rfl, over_moved (Vm.Alike.refl U.vm) z.2.2.2.2⟩, fun U hU hW => ⟨rfl, by rw [hU], by rw [hU]; exact hPc, (hK.moved hW (H1 := U.heap) (by rw [hU]; exact hS.2.1)).narrow hF⟩⟩
  have hgo : va_Run p l ee R s m args below meth c H locs cells slots mc ms (F0 m pc ls (As.reverse ++ .ref q :: st)) st (va_Qv (fun _ : Nat → Nat => True) (fun qs U => va_P e.2.1 vwCl (post qs) U.heap ∧ va_D (va_A [(q, .inr (ci, fs))] H.size) (post qs)) (va_A [(q, .inr (ci, fs))] H.size) (Value.ref q :: As).toArray) (va_A [(q, .inr (ci, fs))] H.size) := by
    have hgi : GoodIn (hv_w M) (hv_w M') := hv_goodIn (by rw [hret]; exact w1)
    rcases hl0 with w7 | ⟨host, w7⟩
    · exact va_runI (As := As) (rest := st) (Ts := hv_w M) ⟨hf.1, hf.2.1, hf.2.2.1, hf.2.2.2.1, hts⟩ hcz (cwI n hts hgi (by rw [hv_w, hret]) rfl rfl (hb _ w3) (hb _ w7) (hb _ hi) hnm w2 ⟨ok.1, ok.2.1⟩) hpre rfl hn hl.1 rfl (lv_room hst) hd ⟨ok.2.2.1, ok.2.2.2⟩
    · exact va_runIN (As := As) (rest := st) (Ts := hv_w M) ⟨hf.1, hf.2.1, hf.2.2.1, hf.2.2.2.1, hts⟩ hcz ⟨va_cnB n hts hgi (by rw [hv_w, hret]) rfl rfl (hK.1.2.1 _ w7) (hb _ w3) w2 ⟨ok.1, ok.2.1⟩, hnm, hb _ hi⟩ hpre rfl hn hl.1 rfl (lv_room hst) hd ⟨ok.2.2.1, ok.2.2.2⟩
  refine va_callv hgo hS (fun x _ hx => hF x hx) hF (fun qs t H1 locs1 ht hvm _ hB hz hk hS1 => ?_)
  obtain ⟨hP1, hD1⟩ := hB
  rw [ht] at hP1
  obtain ⟨hP2, hD2⟩ := va_join (wr := wr) (w1 := post qs) hP hD [wr.length] (List.range wr.length) hC (rng_map wr _) hnd (fun i hi => by
    have := List.mem_range.mp hi
    intro z
    have := List.mem_singleton.mp z
    omega) hk hF hP1 hD1
  exact k qs p ee s m args below meth c H1 locs1 ls hf hn0 hK hA hP2 hD2 hS1 hl
/-- a method of the object that is being made: it and one cell more -/
theorem N_call1 {idx d q ci : Nat} {M' : hv_M} {fs : List Value} {post : (Nat → Nat) → va_W} {x : Nat × va_E} (hd : decode M.2.1 pc = .ok (.invokevirtual idx, 3)) (mv : hv_MV0 M.1.cls idx M' 0) (hci : ∃ (T : u_T) (N : Nat), vwCl[ci]? = some (M'.1.cls, T, N)) (hret : M'.2.2.2 = none)
    (hc : hv_CN l e d 0 0 M' q [] ci fs post) (hst : (st.map fun v => v.category).sum ≤ 8) (ok : d + 1 ≤ R.frames ∧ 8 + (M'.2.2.1 + 11) + 40 * d ≤ R.locals ∧ cells + 0 ≤ R.cells ∧ slots + 0 ≤ R.slots)
    (k : ∀ qs, hv_NW l e R cells slots M Z (pc + 3) lo st ([x] ++ post qs)) : hv_NW l e R cells slots M Z pc lo (.ref q :: st) [(q, .inr (ci, fs)), x] := by
  intro p ee s m args below meth c H locs ls hf hn0 hK hA hP hD hS hl
  obtain ⟨⟨w1, w2, w3⟩, w4, w5, w7⟩ := mv
  obtain ⟨T, N, hcl⟩ := hci
  rw [hret] at w1
  have hts := hf.2.2.2.2.1
  have hb : ∀ w ∈ hv_all, w.before args s = true := fun w hw => hts w (List.mem_cons_of_mem _ hw)
  have hF := va_free (wc := [(q, .inr (ci, fs))]) hD hS hA [0] rfl
  have hPc : va_P e.2.1 vwCl [(q, .inr (ci, fs))] H := hP.sub [0] rfl
  have hcz := hc H.size
  have hrecv := va_recv (q := (M'.1.cls, T, N)) (q0 := 0) hK.1.1 hP hcl rfl
  have hpre : PreV s H M'.1.cls q (va_Pc (.ref q :: []) (fun U => U.heap.size = H.size ∧ va_P e.2.1 vwCl [(q, .inr (ci, fs))] U.heap ∧ hv_KN (e.1, e.2.1, e.2.2.1, va_A [(q, .inr (ci, fs))] H.size) U U.heap)) [] :=
    ⟨fun a U g mk z => ⟨z.1, z.2.1, z.2.2.1, hv_K.same (s := U) (U := U.calling g mk a) z.2.2.2.1 rfl, over_moved (Vm.Alike.refl U.vm) z.2.2.2.2⟩, hrecv, fun U hU hW => ⟨rfl, by rw [hU], by rw [hU]; exact hPc, (hK.moved hW (H1 := U.heap) (by rw [hU]; exact hS.2.1)).narrow hF⟩⟩
  have hgo : va_Run p l ee R s m args below meth c H locs cells slots 0 0 (F0 m pc ls (.ref q :: st)) st (va_Qv (fun _ : Nat → Nat => True) (fun qs U => va_P e.2.1 vwCl (post qs) U.heap ∧ va_D (va_A [(q, .inr (ci, fs))] H.size) (post qs)) (va_A [(q, .inr (ci, fs))] H.size) (Value.ref q :: []).toArray) (va_A [(q, .inr (ci, fs))] H.size) := by
    have hgi : GoodIn (hv_w M) (hv_w M') := hv_goodIn (by rw [hret]; exact w1)
    rcases w7 with w7 | ⟨host, w7⟩
    · exact va_runV (As := []) (rest := st) (b := q) (Ts := hv_w M) ⟨hf.1, hf.2.1, hf.2.2.1, hf.2.2.2.1, hts⟩ hcz ⟨callB_of 0 hts hgi (by rw [hv_w, hret]) rfl rfl (hb _ w3) (hb _ w7) w2 ⟨ok.1, ok.2.1⟩, hb _ w4, hb _ w5⟩ hpre rfl rfl hl.1 rfl (lv_room hst) hd ⟨ok.2.2.1, ok.2.2.2⟩
    · exact va_runVN (As := []) (rest := st) (b := q) (Ts := hv_w M) (host := host) ⟨hf.1, hf.2.1, hf.2.2.1, hf.2.2.2.1, hts⟩ hcz ⟨va_cnB 0 hts hgi (by rw [hv_w, hret]) rfl rfl (hK.1.2.1 _ w7) (hb _ w3) w2 ⟨ok.1, ok.2.1⟩, hb _ w4, hb _ w5⟩ hpre rfl rfl hl.1 rfl (lv_room hst) hd ⟨ok.2.2.1, ok.2.2.2⟩
  refine va_callv hgo hS (fun x _ hx => hF x hx) hF (fun qs t H1 locs1 ht hvm _ hB hz hk hS1 => ?_)
  obtain ⟨hP1, hD1⟩ := hB
  rw [ht] at hP1
  obtain ⟨hP2, hD2⟩ := va_join (wr := [x]) (w1 := post qs) hP hD [0] [1] rfl rfl (by decide) (by decide) hk hF hP1 hD1
  exact k qs p ee s m args below meth c H1 locs1 ls hf hn0 hK hA hP2 hD2 hS1 hl
end NC
