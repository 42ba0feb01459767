-- Math.min, Math.max
section MA
variable {l : Launch} {E : hv_E} {R : Room} {cells slots : Nat} {M : hv_M} {Ψ : State → Array Value → Prop} {Z : hv_Zt} {pc : Nat} {lo : List (Nat × Value)} {st : List Value} {σ : hv_S}
def hv_MM (own : String) (idx : Nat) (y : MethodName) (c : ByteArray) (ret : Option FieldType) (n : Nat) : Prop := Cond.methodLink own idx y ∈ hv_all ∧ Cond.static y ∈ hv_all ∧ Cond.initialized "java/lang/Math" ∈ hv_all ∧ Cond.code y c n ret ∈ hv_all
def hv_mr (R : Room) (cells slots : Nat) (st : List Value) : Prop := 1 ≤ R.frames ∧ (st.map fun v => v.category).sum + 15 ≤ R.locals ∧ cells ≤ R.cells ∧ slots ≤ R.slots
theorem hv_mr1 {d : Nat} {st : List Value} (h : (Nat.ble 1 d && Nat.ble ((st.map fun v => v.category).sum + 15) (40 * d)) = true) : hv_mr (hv_rm d) 0 0 st := by
  rw [Bool.and_eq_true] at h
  exact ⟨Nat.le_of_ble_eq_true h.1, Nat.le_of_ble_eq_true h.2, Nat.le_refl _, Nat.le_refl _⟩
theorem hv_catm (al : Nat → Nat) (st : List Value) : ((st.map (hv_cv al)).map fun v => v.category).sum = (st.map fun v => v.category).sum := by
  rw [List.map_map]
  have e2 : ((fun v : Value => v.category) ∘ hv_cv al) = fun v : Value => v.category := funext fun v => hv_cv_cat _ _
  rw [e2]
theorem T_mminl {idx : Nat} {x y : Int64} (hd : decode M.2.1 pc = .ok (.invokestatic idx, 3)) (w : hv_MM M.1.cls idx Lib.MathLoose.min_long.x Lib.MathLoose.min_long.code (some .long) 4) (r : hv_mr R cells slots st) (k : hv_TW l E R cells slots M Ψ Z (pc + 3) lo (.long (if y < x then y else x) :: st) σ) : hv_TW l E R cells slots M Ψ Z pc lo (.long y :: .long x :: st) σ := by
  intro p e s m args below meth c H locs ls hf hΨ hK hP hS hl
  have hb : ∀ w ∈ hv_all, w.before args s = true := fun w hw => hf.2.2.2.2.1 w (List.mem_cons_of_mem _ hw)
  exact va_mmin_long hf.1 hf.2.1 (hf.2.2.1.trans hl.1.symm) hf.2.2.2.1 (hb _ w.1) (hb _ w.2.1) (hb _ w.2.2.1) (hb _ w.2.2.2) r.1 (by rw [hv_catm]; exact r.2.1) r.2.2.1 r.2.2.2 hd (k p e s m args below meth c H locs ls hf hΨ hK hP hS hl)
theorem T_mmaxl {idx : Nat} {x y : Int64} (hd : decode M.2.1 pc = .ok (.invokestatic idx, 3)) (w : hv_MM M.1.cls idx Lib.MathLoose.max_long.x Lib.MathLoose.max_long.code (some .long) 4) (r : hv_mr R cells slots st) (k : hv_TW l E R cells slots M Ψ Z (pc + 3) lo (.long (if y < x then x else y) :: st) σ) : hv_TW l E R cells slots M Ψ Z pc lo (.long y :: .long x :: st) σ := by
  intro p e s m args below meth c H locs ls hf hΨ hK hP hS hl
  have hb : ∀ w ∈ hv_all, w.before args s = true := fun w hw => hf.2.2.2.2.1 w (List.mem_cons_of_mem _ hw)
  exact va_mmax_long hf.1 hf.2.1 (hf.2.2.1.trans hl.1.symm) hf.2.2.2.1 (hb _ w.1) (hb _ w.2.1) (hb _ w.2.2.1) (hb _ w.2.2.2) r.1 (by rw [hv_catm]; exact r.2.1) r.2.2.1 r.2.2.2 hd (k p e s m args below meth c H locs ls hf hΨ hK hP hS hl)
theorem T_mmini {idx : Nat} {x y : Int32} (hd : decode M.2.1 pc = .ok (.invokestatic idx, 3)) (w : hv_MM M.1.cls idx Lib.Math.min.name Lib.Math.min.code (some .int) 2) (r : hv_mr R cells slots st) (k : hv_TW l E R cells slots M Ψ Z (pc + 3) lo (.int (if y < x then y else x) :: st) σ) : hv_TW l E R cells slots M Ψ Z pc lo (.int y :: .int x :: st) σ := by
  intro p e s m args below meth c H locs ls hf hΨ hK hP hS hl
  have hb : ∀ w ∈ hv_all, w.before args s = true := fun w hw => hf.2.2.2.2.1 w (List.mem_cons_of_mem _ hw)
  exact va_mmin hf.1 hf.2.1 (hf.2.2.1.trans hl.1.symm) hf.2.2.2.1 (hb _ w.1) (hb _ w.2.1) (hb _ w.2.2.1) (hb _ w.2.2.2) r.1 (by rw [hv_catm]; exact Nat.le_trans (by omega) r.2.1) r.2.2.1 r.2.2.2 hd (k p e s m args below meth c H locs ls hf hΨ hK hP hS hl)
end MA
theorem mm_X6_103 : hv_MM RX6 103 Lib.MathLoose.min_long.x Lib.MathLoose.min_long.code (some .long) 4 := ⟨by decide +kernel, by decide +kernel, by decide +kernel, by decide +kernel⟩
theorem mm_X6_124 : hv_MM RX6 124 Lib.MathLoose.max_long.x Lib.MathLoose.max_long.code (some .long) 4 := ⟨by decide +kernel, by decide +kernel, by decide +kernel, by decide +kernel⟩
theorem mm_X0_19 : hv_MM RX0 19 Lib.Math.min.name Lib.Math.min.code (some .int) 2 := ⟨by decide +kernel, by decide +kernel, by decide +kernel, by decide +kernel⟩
