-- THE ABSTRACT MACHINE: one statement about a frame over an abstract world, and a row for each instruction, proved once out of the kit's rows
def hv_all : List Cond := lw_tbl.filter goodWord
def hv_isN : Cond → Bool
  | .fieldLinkNest .. => true
  | .methodLinkNest .. => true
  | _ => false
def hv_nst : List Cond := tables_1.filter hv_isN
/-- a method: its name, bytes, locals, what it answers -/
abbrev hv_M : Type := MethodName × ByteArray × Nat × Option FieldType
def hv_w (M : hv_M) : List Cond := .code M.1 M.2.1 M.2.2.1 M.2.2.2 :: hv_all
/-- what stands at a place: an object (class, kinds of its fields), or an array (kind, length) -/
abbrev hv_Sh : Type := (Nat × List (Nat × Nat)) ⊕ (Nat × Nat)
/-- ints (fields, items, booleans too), longs, references: by place and slot -/
abbrev hv_S : Type := (Nat → Nat → Int32) × (Nat → Nat → Int64) × (Nat → Nat → Nat)
def hv_fv (σ : hv_S) (k j : Nat) (ft : Nat × Nat) : Value := match ft.1 with
  | 0 => .int (σ.1 k j)
  | 1 => .int (σ.1 k j)
  | 2 => .long (σ.2.1 k j)
  | 3 => .ref ft.2
  | 4 => .ref (k + ft.2)
  | _ => .ref (σ.2.2 k j)
def hv_fs (σ : hv_S) (k : Nat) : Nat → List (Nat × Nat) → List Value
  | _, [] => []
  | j, ft :: r => hv_fv σ k j ft :: hv_fs σ k (j + 1) r
def hv_cv (al : Nat → Nat) : Value → Value
  | .ref a => .ref (al a)
  | v => v
/-- shapes, places, addresses, classes, array classes, what may be written -/
abbrev hv_E : Type := (Nat → hv_Sh) × List Nat × (Nat → Nat) × va_G × (Nat → ClassId) × (Nat → Prop)
abbrev hv_sh (E : hv_E) : Nat → hv_Sh := E.1
abbrev hv_pl (E : hv_E) : List Nat := E.2.1
abbrev hv_al (E : hv_E) : Nat → Nat := E.2.2.1
abbrev hv_D (E : hv_E) : va_G := E.2.2.2.1
abbrev hv_T (E : hv_E) : Nat → ClassId := E.2.2.2.2.1
abbrev hv_A (E : hv_E) : Nat → Prop := E.2.2.2.2.2
def hv_cell (al : Nat → Nat) (T : Nat → ClassId) (σ : hv_S) (k : Nat) : hv_Sh → va_E
  | .inl o => .inr (o.1, (hv_fs σ k 0 o.2).map (hv_cv al))
  | .inr a => match a.1 with
    | 0 => .inl (T 0, a.2, .inl (σ.1 k))
    | 1 => .inl (T 1, a.2, .inr (.inl (σ.2.1 k)))
    | 2 => .inl (T 2, a.2, .inl (σ.1 k))
    | t + 3 => .inl (T 3, a.2, .inr (.inr (.inr (.inr (fun i => if i < a.2 then some (al (t + i)) else none)))))
def hv_at (E : hv_E) (σ : hv_S) (k : Nat) : Nat × va_E := (hv_al E k, hv_cell (hv_al E) (hv_T E) σ k (hv_sh E k))
def hv_ws (E : hv_E) (σ : hv_S) : va_W := (hv_pl E).map (hv_at E σ)
def hv_tys (E : hv_E) : List (ClassId × FieldType) := [(hv_T E 0, .int), (hv_T E 1, .long), (hv_T E 2, .boolean), (hv_T E 3, .array .long)]
-- the seven literals of the class, and the statics that the JDK's texts look at
def hv_si : List Nat := [38, 48, 59, 64, 81, 103, 109]
def hv_sx : List String := ["bar ", "cap ", "need ", "ring ", " ", "abmsq", "<=>"]
def hv_len : List Nat := [4, 4, 5, 5, 1, 5, 3]
def hv_byt : List (List Int32) := [[98, 97, 114, 32], [99, 97, 112, 32], [110, 101, 101, 100, 32], [114, 105, 110, 103, 32], [32], [97, 98, 109, 115, 113], [60, 61, 62]]
def hv_O (E : hv_E) (U : State) (H : Heap) : Prop := (∀ i : Nat, i < 7 → vk_R RX1 (hv_si.getD i 0) (hv_sx.getD i "") (hv_al E (1000 + i)) U) ∧ vk_S 7 hv_len hv_byt (fun i => hv_al E (1000 + i)) (fun i => hv_al E (2000 + i)) (hv_A E) U H ∧
  va_Z "java/lang/String" "COMPACT_STRINGS" "Z" (.int 1) (hv_A E) U H ∧ (va_Z "jdk/internal/util/Preconditions" "SIOOBE_FORMATTER" "Ljava/util/function/BiFunction;" .null (hv_A E) U H ∨ va_Z "jdk/internal/util/Preconditions" "SIOOBE_FORMATTER" "Ljava/util/function/BiFunction;" (.ref (hv_al E 3000)) (hv_A E) U H)
def hv_P (E : hv_E) (σ : hv_S) (H : Heap) : Prop := va_P (hv_D E) vwCl (hv_ws E σ) H ∧ va_D (hv_A E) (hv_ws E σ)
def hv_K (E : hv_E) (U : State) (H : Heap) : Prop := va_K (hv_D E) vwCl (hv_tys E) U ∧ (∀ w ∈ hv_nst, va_Nw w U) ∧ hv_O E U H
theorem hv_K.moved {E : hv_E} {s U : State} {H H1 : Heap} (h : hv_K E s H) (hW : s.WarmedH U.vm) (hq : ∀ a : Nat, a < H.size → ¬ hv_A E a → H1[a]? = H[a]?) : hv_K E U H1 := by
  obtain ⟨g1, g2, g3, g4, g5, g6⟩ := h
  refine ⟨va_K.moved hW.alike g1, fun w hw => ?_, fun i hi => (g3 i hi).warm hW, (g4.moved hW.alike).kept hq, (g5.moved hW.alike).kept hq, g6.imp (fun g => (g.moved hW.alike).kept hq) (fun g => (g.moved hW.alike).kept hq)⟩
  have h1 := g2 w hw
  have h2 : hv_isN w = true := (List.mem_filter.mp hw).2
  cases w <;> first | exact Bool.noConfusion h2 | exact va_Nw.warmF hW h1 | exact va_Nw.warmM hW h1
theorem hv_K.same {E : hv_E} {s U : State} {H : Heap} (h : hv_K E s H) (hv : s.vm = U.vm) : hv_K E U H := by
  obtain ⟨g1, g2, g3, g4, g5, g6⟩ := h
  have ha : s.vm.Alike U.vm := by rw [hv]; exact Vm.Alike.refl U.vm
  refine ⟨va_K.moved ha g1, fun w hw => ?_, fun i hi => (g3 i hi).same hv.symm, g4.moved ha, g5.moved ha, g6.imp (fun g => g.moved ha) (fun g => g.moved ha)⟩
  have h1 := g2 w hw
  have h2 : hv_isN w = true := (List.mem_filter.mp hw).2
  cases w <;> first | exact Bool.noConfusion h2 | exact va_Nw.same rfl hv h1
theorem hv_P.place {E : hv_E} {σ : hv_S} {k : Nat} (hk : k ∈ hv_pl E) : ∃ q0 : Nat, (hv_ws E σ)[q0]? = some (hv_at E σ k) := by
  obtain ⟨q, hq⟩ := List.getElem?_of_mem hk
  exact ⟨q, by unfold hv_ws; rw [List.getElem?_map, hq]; rfl⟩
/-- the addresses of different places are different -/
theorem hv_P.inj {E : hv_E} {σ : hv_S} {H : Heap} (h : hv_P E σ H) {i j k k' : Nat} (hi : (hv_pl E)[i]? = some k) (hj : (hv_pl E)[j]? = some k') (e : hv_al E k = hv_al E k') : i = j := by
  refine h.2.1 i j (hv_at E σ k) (hv_at E σ k') ?_ ?_ e
  · unfold hv_ws; rw [List.getElem?_map, hi]; rfl
  · unfold hv_ws; rw [List.getElem?_map, hj]; rfl
/-- a world that differs at one place only -/
theorem hv_ws_set {E : hv_E} {σ σ' : hv_S} {H : Heap} (h : hv_P E σ H) {k q0 : Nat} (hq : (hv_pl E)[q0]? = some k) (ho : ∀ j, j ∈ hv_pl E → j ≠ k → hv_at E σ' j = hv_at E σ j) : (hv_ws E σ).set q0 (hv_at E σ' k) = hv_ws E σ' := by
  apply List.ext_getElem?
  intro i
  rw [List.getElem?_set]
  have hl : q0 < (hv_ws E σ).length := by
    unfold hv_ws; rw [List.length_map]; exact (List.getElem?_eq_some_iff.mp hq).1
  by_cases hi : q0 = i
  · subst hi
    rw [if_pos rfl, if_pos hl]
    unfold hv_ws
    rw [List.getElem?_map, hq]; rfl
  · rw [if_neg hi]
    unfold hv_ws
    rw [List.getElem?_map, List.getElem?_map]
    cases hj : (hv_pl E)[i]? with
    | none => rfl
    | some k' =>
      have hne : k' ≠ k := fun e => hi (h.inj hq hj (by rw [e]))
      simp only [Option.map_some]
      rw [ho k' (List.mem_of_getElem? hj) hne]
-- updates
def hv_ui (σ : hv_S) (k j : Nat) (v : Int32) : hv_S := (fun k' j' => if k' = k ∧ j' = j then v else σ.1 k' j', σ.2.1, σ.2.2)
def hv_ul (σ : hv_S) (k j : Nat) (v : Int64) : hv_S := (σ.1, fun k' j' => if k' = k ∧ j' = j then v else σ.2.1 k' j', σ.2.2)
def hv_ur (σ : hv_S) (k j : Nat) (v : Nat) : hv_S := (σ.1, σ.2.1, fun k' j' => if k' = k ∧ j' = j then v else σ.2.2 k' j')
theorem hv_fs_congr {σ σ' : hv_S} {k : Nat} : ∀ (r : List (Nat × Nat)) (j : Nat), (∀ i, σ'.1 k i = σ.1 k i) → (∀ i, σ'.2.1 k i = σ.2.1 k i) → (∀ i, σ'.2.2 k i = σ.2.2 k i) → hv_fs σ' k j r = hv_fs σ k j r := by
  intro r
  induction r with
  | nil => intro j _ _ _; rfl
  | cons ft r ih =>
    intro j h1 h2 h3
    show hv_fv σ' k j ft :: hv_fs σ' k (j + 1) r = _
    rw [ih (j + 1) h1 h2 h3]
    show _ = hv_fv σ k j ft :: hv_fs σ k (j + 1) r
    congr 1
    unfold hv_fv
    rw [h1, h2, h3]
theorem hv_at_congr {E : hv_E} {σ σ' : hv_S} {k : Nat} (h1 : ∀ i, σ'.1 k i = σ.1 k i) (h2 : ∀ i, σ'.2.1 k i = σ.2.1 k i) (h3 : ∀ i, σ'.2.2 k i = σ.2.2 k i) : hv_at E σ' k = hv_at E σ k := by
  unfold hv_at
  congr 1
  cases hs : hv_sh E k with
  | inl o =>
    show Sum.inr (o.1, (hv_fs σ' k 0 o.2).map (hv_cv (hv_al E))) = _
    rw [hv_fs_congr o.2 0 h1 h2 h3]
    rfl
  | inr a =>
    obtain ⟨t, n⟩ := a
    have e1 : σ'.1 k = σ.1 k := funext h1
    have e2 : σ'.2.1 k = σ.2.1 k := funext h2
    match t with
    | 0 => show Sum.inl (hv_T E 0, n, Sum.inl (σ'.1 k)) = _; rw [e1]; rfl
    | 1 => show Sum.inl (hv_T E 1, n, Sum.inr (Sum.inl (σ'.2.1 k))) = _; rw [e2]; rfl
    | 2 => show Sum.inl (hv_T E 2, n, Sum.inl (σ'.1 k)) = _; rw [e1]; rfl
    | t + 3 => rfl
theorem hv_ui_at {E : hv_E} {σ : hv_S} {k j : Nat} {v : Int32} {k' : Nat} (h : k' ≠ k) : hv_at E (hv_ui σ k j v) k' = hv_at E σ k' := hv_at_congr (fun i => if_neg (fun q => h q.1)) (fun _ => rfl) (fun _ => rfl)
theorem hv_ul_at {E : hv_E} {σ : hv_S} {k j : Nat} {v : Int64} {k' : Nat} (h : k' ≠ k) : hv_at E (hv_ul σ k j v) k' = hv_at E σ k' := hv_at_congr (fun _ => rfl) (fun i => if_neg (fun q => h q.1)) (fun _ => rfl)
theorem hv_ur_at {E : hv_E} {σ : hv_S} {k j : Nat} {v : Nat} {k' : Nat} (h : k' ≠ k) : hv_at E (hv_ur σ k j v) k' = hv_at E σ k' := hv_at_congr (fun _ => rfl) (fun _ => rfl) (fun i => if_neg (fun q => h q.1))
-- fields of one object
theorem hv_fs_get {σ : hv_S} {k : Nat} : ∀ (r : List (Nat × Nat)) (j0 j : Nat) (ft : Nat × Nat), r[j]? = some ft → (hv_fs σ k j0 r)[j]? = some (hv_fv σ k (j0 + j) ft) := by
  intro r
  induction r with
  | nil => intro j0 j ft h; simp at h
  | cons f r ih =>
    intro j0 j ft h
    cases j with
    | zero => simp at h; subst h; rfl
    | succ j =>
      have := ih (j0 + 1) j ft (by simpa using h)
      show (hv_fv σ k j0 f :: hv_fs σ k (j0 + 1) r)[j + 1]? = _
      rw [List.getElem?_cons_succ, this]
      congr 2
      omega
theorem hv_fs_len {σ : hv_S} {k : Nat} : ∀ (r : List (Nat × Nat)) (j0 : Nat), (hv_fs σ k j0 r).length = r.length := by
  intro r
  induction r with
  | nil => intro _; rfl
  | cons f r ih => intro j0; show (hv_fs σ k (j0 + 1) r).length + 1 = _; rw [ih]; rfl
theorem hv_fs_ext {σ : hv_S} {k : Nat} {r : List (Nat × Nat)} {σ' : hv_S} {j : Nat} {v : Value} (hv : ∀ ft, r[j]? = some ft → hv_fv σ' k j ft = v) (ho : ∀ i ft, i ≠ j → hv_fv σ' k i ft = hv_fv σ k i ft) : (hv_fs σ k 0 r).set j v = hv_fs σ' k 0 r := by
  apply List.ext_getElem?
  intro i
  rw [List.getElem?_set, hv_fs_len]
  by_cases hi : j = i
  · subst hi
    rw [if_pos rfl]
    by_cases hl : j < r.length
    · rw [if_pos hl]
      have hf := List.getElem?_eq_getElem hl
      rw [hv_fs_get r 0 j _ hf, Nat.zero_add, hv _ hf]
    · rw [if_neg hl]
      rw [List.getElem?_eq_none (by rw [hv_fs_len]; omega)]
  · rw [if_neg hi]
    by_cases hl : i < r.length
    · have hf := List.getElem?_eq_getElem hl
      rw [hv_fs_get r 0 i _ hf, hv_fs_get r 0 i _ hf, Nat.zero_add, ho _ _ (fun e => hi e.symm)]
    · rw [List.getElem?_eq_none (by rw [hv_fs_len]; omega), List.getElem?_eq_none (by rw [hv_fs_len]; omega)]
theorem hv_cv_cat (al : Nat → Nat) (v : Value) : (hv_cv al v).category = v.category := by cases v <;> rfl
/-- what a method's body stands on -/
def hv_fix (p : Program) (s : State) (m : MethodId) (args : Array Value) (meth : Method) (c : Code) (M : hv_M) : Prop :=
  p.tables.exec = Jvm.exec ∧ c.code = M.2.1 ∧ c.maxLocals = M.2.2.1 ∧ s.vm.findClass M.1.cls = some m.cls ∧ (∀ w ∈ hv_w M, w.before args s = true) ∧ meth.sig.returnType = M.2.2.2 ∧ meth.locks = false
def hv_lo (E : hv_E) (lo : List (Nat × Value)) : List (Nat × Value) := lo.map (fun q => (q.1, hv_cv (hv_al E) q.2))
abbrev hv_Zt : Type := List Frame → Array Value → State → State → Prop
/-- A FRAME: at pc, with locals lo, stack st, in the world σ: it comes to Z -/
def hv_TW (l : Launch) (E : hv_E) (R : Room) (cells slots : Nat) (M : hv_M) (Ψ : State → Array Value → Prop) (Z : hv_Zt) (pc : Nat) (lo : List (Nat × Value)) (st : List Value) (σ : hv_S) : Prop :=
  ∀ (p : Program) (e : Env) (s : State) (m : MethodId) (args : Array Value) (below : List Frame) (meth : Method) (c : Code) (H : Heap) (locs : List Loc) (ls : Array Slot),
    hv_fix p s m args meth c M → Ψ s args → hv_K E s s.heap → hv_P E σ H → va_S (hv_A E) s.heap H locs → lv_has ls M.2.2.1 (hv_lo E lo) →
    W p l e R s m args below meth c H locs cells slots (Z below args s) (F0 m pc ls (st.map (hv_cv (hv_al E))))
