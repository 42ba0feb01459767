-- AN ARRAY OF ARRAYS
theorem mna_slots (cA : ClassId) (h0 : Nat) : (Jvm.Free.Multi.outerC cA 8 h0 8).slots = Array.ofFn (n := 8) fun j => va_rf (if j.val < 8 then some (h0 + 1 + j.val) else none) := by
  refine Array.ext_getElem? (fun j => ?_)
  by_cases c : j < 8
  · rw [Jvm.Free.Multi.outerC_slot cA 8 h0 8 j c, if_pos c, Array.getElem?_ofFn, dif_pos c, if_pos c]
    rfl
  · rw [Array.getElem?_ofFn, dif_neg c, Array.getElem?_eq_none]
    rw [(Jvm.Free.Multi.outerC_facts cA 8 h0 8).2.2]
    omega
theorem mna_outer (cA : ClassId) (h0 : Nat) : Jvm.Free.Multi.outerC cA 8 h0 8 = vp_cell cA (8, .inr (.inr (.inr (.inr (fun i => if i < 8 then some (h0 + 1 + i) else none))))) := by
  have h1 := Jvm.Free.Multi.outerC_facts cA 8 h0 8
  have h2 := Jvm.Free.Multi.outerC_plain cA 8 h0 8
  have h3 := mna_slots cA h0
  show _ = arrV cA 8 (fun j => va_rf (if j < 8 then some (h0 + 1 + j) else none))
  unfold arrV
  generalize Jvm.Free.Multi.outerC cA 8 h0 8 = x at h1 h2 h3 ⊢
  cases x
  obtain ⟨a1, a2, a3⟩ := h1
  obtain ⟨b1, b2⟩ := h2
  cases a1; cases a2; cases b1; cases b2; cases h3
  rfl
section NM
variable {l : Launch} {e : hv_Ev} {R : Room} {cells slots : Nat} {M : hv_M} {Z : hv_Zt} {pc : Nat} {lo : List (Nat × Value)} {st : List Value} {ws : va_W}
/-- long[8][9] -/
theorem N_mna {idx : Nat} (hd : decode M.2.1 pc = .ok (.multianewarray idx 2, 4)) (hcl : Cond.classLink M.1.cls idx "[[J" ∈ hv_all) (harr : Cond.arrayClass .long ∈ hv_all) (hc : cells + 9 ≤ R.cells) (hs : slots + 80 ≤ R.slots)
    (k : ∀ q, hv_NW l e R (cells + 9) (slots + 80) M Z (pc + 4) lo (.ref q :: st) (ws ++ [(q, .inl (e.2.2.1 3, 8, .inr (.inr (.inr (.inr (fun i => if i < 8 then some (q + 1 + i) else none)))))), (q + 1 + 0, .inl (e.2.2.1 1, 9, .inr (.inl (fun _ => 0)))), (q + 1 + 1, .inl (e.2.2.1 1, 9, .inr (.inl (fun _ => 0)))), (q + 1 + 2, .inl (e.2.2.1 1, 9, .inr (.inl (fun _ => 0)))), (q + 1 + 3, .inl (e.2.2.1 1, 9, .inr (.inl (fun _ => 0)))), (q + 1 + 4, .inl (e.2.2.1 1, 9, .inr (.inl (fun _ => 0)))), (q + 1 + 5, .inl (e.2.2.1 1, 9, .inr (.inl (fun _ => 0)))), (q + 1 + 6, .inl (e.2.2.1 1, 9, .inr (.inl (fun _ => 0)))), (q + 1 + 7, .inl (e.2.2.1 1, 9, .inr (.inl (fun _ => 0))))])) :
    hv_NW l e R cells slots M Z pc lo (.int 9 :: .int 8 :: st) ws := by
  intro p ee s m args below meth c H locs ls hf hn hK hA hP hD hS hl T hT X
  have hts := hf.2.2.2.2.1
  subst hT
  obtain ⟨vm₁, cA, comp, hW, f1, f2, -, -, X1, step⟩ := X.multianewarray2F hf.1 (ty := .long) hf.2.2.2.1 (hts _ (List.mem_cons_of_mem _ hcl)) (over_moved (Vm.Alike.refl s.vm) hK.2) (hts _ (List.mem_cons_of_mem _ harr)) (g := F0 m pc ls (.int 9 :: .int 8 :: st)) rfl (by rw [hf.2.1]; exact hd) (n := 8) (k := 9) (rest := st) rfl (by decide) (by decide) (by decide) (by decide) (by decide) rfl rfl (by show cells + (1 + 8) ≤ _; omega) (by show slots + (8 + 8 * 9) ≤ _; omega)
  have g1 : some cA = some (e.2.2.1 3) := f1.symm.trans (hK.1.1.2 3 (e.2.2.1 3, .array .long) rfl).2
  have g2 : some comp = some (e.2.2.1 1) := f2.symm.trans (hK.1.1.2 1 (e.2.2.1 1, .long) rfl).2
  cases Option.some.inj g1
  cases Option.some.inj g2
  obtain ⟨z1, z2, z3, z4⟩ := Jvm.Free.Multi.fill_facts (T.setVm vm₁) (e.2.2.1 3) (e.2.2.1 1) 8 9 (defaultValue .long) 8
  have hold := fun (a : Nat) (ha : a < T.heap.size) => Jvm.Free.Multi.fill_old (T.setVm vm₁) (e.2.2.1 3) (e.2.2.1 1) 8 9 (defaultValue .long) (a := a) ha 8
  have hin := fun (j : Nat) (hj : j < 8) => Jvm.Free.Multi.fill_inner (T.setVm vm₁) (e.2.2.1 3) (e.2.2.1 1) 8 9 (defaultValue .long) 8 j hj
  have hin2 : ∀ j : Nat, j < 8 → va_at e.2.1 vwCl (T.heap.size + 1 + j, .inl (e.2.2.1 1, 9, .inr (.inl (fun _ => 0)))) (Jvm.Free.Multi.fill (T.setVm vm₁) (e.2.2.1 3) (e.2.2.1 1) 8 9 (defaultValue .long) 8).heap := fun j hj => (hin j hj).trans (congrArg some (arrV_new (e.2.2.1 1) 9 (.long 0)))
  have hlt : ∀ (i : Nat) (x : Nat × va_E), ws[i]? = some x → x.1 < T.heap.size := fun i x hx => (hP i x hx).lt
  obtain ⟨t, a1, b1⟩ := k T.heap.size p ee s m args below meth c (Jvm.Free.Multi.fill (T.setVm vm₁) (e.2.2.1 3) (e.2.2.1 1) 8 9 (defaultValue .long) 8).heap locs ls hf hn hK hA
    ((hP.kept (fun i x hx => hold x.1 (hlt i x hx))).app (fun i x hx => by
      have hi : i < 9 := (List.getElem?_eq_some_iff.mp hx).1
      rcases (show i = 0 ∨ i = 1 ∨ i = 2 ∨ i = 3 ∨ i = 4 ∨ i = 5 ∨ i = 6 ∨ i = 7 ∨ i = 8 by omega) with rfl | rfl | rfl | rfl | rfl | rfl | rfl | rfl | rfl
      · cases hx
        exact z2.trans (congrArg some (mna_outer _ _))
      · cases hx; exact hin2 0 (by decide)
      · cases hx; exact hin2 1 (by decide)
      · cases hx; exact hin2 2 (by decide)
      · cases hx; exact hin2 3 (by decide)
      · cases hx; exact hin2 4 (by decide)
      · cases hx; exact hin2 5 (by decide)
      · cases hx; exact hin2 6 (by decide)
      · cases hx; exact hin2 7 (by decide)))
    ⟨fun i j x y hx hy hxy => by
      rw [List.getElem?_append] at hx hy
      by_cases ci : i < ws.length
      · rw [if_pos ci] at hx
        by_cases cj : j < ws.length
        · rw [if_pos cj] at hy
          exact hD.1 i j x y hx hy hxy
        · rw [if_neg cj] at hy
          have := hlt i x hx
          have hj : j - ws.length < 9 := (List.getElem?_eq_some_iff.mp hy).1
          rcases (show j - ws.length = 0 ∨ j - ws.length = 1 ∨ j - ws.length = 2 ∨ j - ws.length = 3 ∨ j - ws.length = 4 ∨ j - ws.length = 5 ∨ j - ws.length = 6 ∨ j - ws.length = 7 ∨ j - ws.length = 8 by omega) with e1 | e1 | e1 | e1 | e1 | e1 | e1 | e1 | e1 <;> (rw [e1] at hy; cases hy; exact absurd hxy (by show x.1 ≠ _; simp only; omega))
      · rw [if_neg ci] at hx
        have hi : i - ws.length < 9 := (List.getElem?_eq_some_iff.mp hx).1
        have hx1 : x.1 = T.heap.size + (i - ws.length) := by
          rcases (show i - ws.length = 0 ∨ i - ws.length = 1 ∨ i - ws.length = 2 ∨ i - ws.length = 3 ∨ i - ws.length = 4 ∨ i - ws.length = 5 ∨ i - ws.length = 6 ∨ i - ws.length = 7 ∨ i - ws.length = 8 by omega) with e1 | e1 | e1 | e1 | e1 | e1 | e1 | e1 | e1 <;> (rw [e1] at hx ⊢; cases hx; simp only <;> omega)
        by_cases cj : j < ws.length
        · rw [if_pos cj] at hy
          have := hlt j y hy
          omega
        · rw [if_neg cj] at hy
          have hj : j - ws.length < 9 := (List.getElem?_eq_some_iff.mp hy).1
          have hy1 : y.1 = T.heap.size + (j - ws.length) := by
            rcases (show j - ws.length = 0 ∨ j - ws.length = 1 ∨ j - ws.length = 2 ∨ j - ws.length = 3 ∨ j - ws.length = 4 ∨ j - ws.length = 5 ∨ j - ws.length = 6 ∨ j - ws.length = 7 ∨ j - ws.length = 8 by omega) with e1 | e1 | e1 | e1 | e1 | e1 | e1 | e1 | e1 <;> (rw [e1] at hy ⊢; cases hy; simp only <;> omega)
          omega, fun i x hx => by
      rw [List.getElem?_append] at hx
      by_cases ci : i < ws.length
      · rw [if_pos ci] at hx
        exact hD.2 i x hx
      · rw [if_neg ci] at hx
        have hi : i - ws.length < 9 := (List.getElem?_eq_some_iff.mp hx).1
        refine hA _ ?_
        have := hS.1
        rcases (show i - ws.length = 0 ∨ i - ws.length = 1 ∨ i - ws.length = 2 ∨ i - ws.length = 3 ∨ i - ws.length = 4 ∨ i - ws.length = 5 ∨ i - ws.length = 6 ∨ i - ws.length = 7 ∨ i - ws.length = 8 by omega) with e1 | e1 | e1 | e1 | e1 | e1 | e1 | e1 | e1 <;> (rw [e1] at hx; cases hx; simp only <;> omega)⟩
    ⟨Nat.le_trans hS.1 (by rw [z1]; show T.heap.size ≤ T.heap.size + 1 + 8; omega), fun x h1 h2 => (hold x (Nat.lt_of_lt_of_le h1 hS.1)).trans (hS.2.1 x h1 h2), hS.2.2⟩ hl _ rfl X1
  exact ⟨t, step t a1, b1⟩
end NM
