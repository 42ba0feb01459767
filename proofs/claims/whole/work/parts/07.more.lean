-- more rows
section X
variable {l : Launch} {E : hv_E} {R : Room} {cells slots : Nat} {M : hv_M} {Ψ : State → Array Value → Prop} {Z : hv_Zt} {pc : Nat} {lo : List (Nat × Value)} {st : List Value} {σ : hv_S}
theorem T_topi {x : Int32} (k : ∀ y : Int32, y = x → hv_TW l E R cells slots M Ψ Z pc lo (.int y :: st) σ) : hv_TW l E R cells slots M Ψ Z pc lo (.int x :: st) σ := k x rfl
theorem T_topl {x : Int64} (k : ∀ y : Int64, y = x → hv_TW l E R cells slots M Ψ Z pc lo (.long y :: st) σ) : hv_TW l E R cells slots M Ψ Z pc lo (.long x :: st) σ := k x rfl
theorem T_ldcw {i : Nat} {v : Int32} (hd : decode M.2.1 pc = .ok (.ldc_w i, 3)) (hw : Cond.constant M.1.cls i v ∈ hv_all) (k : hv_TW l E R cells slots M Ψ Z (pc + 3) lo (.int v :: st) σ) : hv_TW l E R cells slots M Ψ Z pc lo st σ := by
  intro p e s m args below meth c H locs ls hf hΨ hK hP hS hl
  exact lv_ldcw hf.1 hf.2.1 hf.2.2.2.1 (hf.2.2.2.2.1 _ (List.mem_cons_of_mem _ hw)) hd (k p e s m args below meth c H locs ls hf hΨ hK hP hS hl)
theorem lc_cases (x y : Int64) : (x < y ∧ lg_cmp x y = -1) ∨ (x = y ∧ lg_cmp x y = 0) ∨ (y < x ∧ lg_cmp x y = 1) := by
  unfold lg_cmp
  by_cases h1 : x > y
  · right; right; exact ⟨h1, by rw [if_pos h1]⟩
  · by_cases h2 : x = y
    · right; left; exact ⟨h2, by rw [if_neg h1, if_pos h2]⟩
    · left
      refine ⟨?_, by rw [if_neg h1, if_neg h2]⟩
      simp only [gt_iff_lt, Int64.lt_iff_toInt_lt, ← Int64.toInt_inj] at *
      omega
theorem lc_lt (x y : Int64) : lg_cmp x y < 0 ↔ x < y := by
  rcases lc_cases x y with ⟨h, e⟩ | ⟨h, e⟩ | ⟨h, e⟩ <;> rw [e]
  · exact ⟨fun _ => h, fun _ => by decide⟩
  · exact ⟨fun q => absurd q (by decide), fun q => by subst h; simp only [Int64.lt_iff_toInt_lt] at q; omega⟩
  · exact ⟨fun q => absurd q (by decide), fun q => by simp only [Int64.lt_iff_toInt_lt] at *; omega⟩
theorem lc_eq (x y : Int64) : lg_cmp x y = 0 ↔ x = y := by
  rcases lc_cases x y with ⟨h, e⟩ | ⟨h, e⟩ | ⟨h, e⟩ <;> rw [e]
  · exact ⟨fun q => absurd q (by decide), fun q => by subst q; simp only [Int64.lt_iff_toInt_lt] at h; omega⟩
  · exact ⟨fun _ => h, fun _ => rfl⟩
  · exact ⟨fun q => absurd q (by decide), fun q => by subst q; simp only [Int64.lt_iff_toInt_lt] at h; omega⟩
theorem lc_gt (x y : Int64) : 0 < lg_cmp x y ↔ y < x := by
  rcases lc_cases x y with ⟨h, e⟩ | ⟨h, e⟩ | ⟨h, e⟩ <;> rw [e]
  · exact ⟨fun q => absurd q (by decide), fun q => by simp only [Int64.lt_iff_toInt_lt] at *; omega⟩
  · exact ⟨fun q => absurd q (by decide), fun q => by subst h; simp only [Int64.lt_iff_toInt_lt] at q; omega⟩
  · exact ⟨fun _ => h, fun _ => by decide⟩
theorem lc_ge (x y : Int64) : 0 ≤ lg_cmp x y ↔ y ≤ x := by
  rcases lc_cases x y with ⟨h, e⟩ | ⟨h, e⟩ | ⟨h, e⟩ <;> rw [e]
  · exact ⟨fun q => absurd q (by decide), fun q => by simp only [Int64.lt_iff_toInt_lt, Int64.le_iff_toInt_le] at *; omega⟩
  · exact ⟨fun _ => by subst h; simp only [Int64.le_iff_toInt_le]; omega, fun _ => by decide⟩
  · exact ⟨fun _ => by simp only [Int64.lt_iff_toInt_lt, Int64.le_iff_toInt_le] at *; omega, fun _ => by decide⟩
theorem lc_le (x y : Int64) : lg_cmp x y ≤ 0 ↔ x ≤ y := by
  rcases lc_cases x y with ⟨h, e⟩ | ⟨h, e⟩ | ⟨h, e⟩ <;> rw [e]
  · exact ⟨fun _ => by simp only [Int64.lt_iff_toInt_lt, Int64.le_iff_toInt_le] at *; omega, fun _ => by decide⟩
  · exact ⟨fun _ => by subst h; simp only [Int64.le_iff_toInt_le]; omega, fun _ => by decide⟩
  · exact ⟨fun q => absurd q (by decide), fun q => by simp only [Int64.lt_iff_toInt_lt, Int64.le_iff_toInt_le] at *; omega⟩
theorem T_lc_lt {x y : Int64} {off : Int} {tgt : Nat} (hd : decode M.2.1 pc = .ok (.lcmp, 1)) (hd2 : decode M.2.1 (pc + 1) = .ok (.ifCond .lt off, 3)) (ht : ((pc + 1 : Nat) : Int) + off = (tgt : Int)) (h1 : x < y → hv_TW l E R cells slots M Ψ Z tgt lo st σ) (h2 : ¬ x < y → hv_TW l E R cells slots M Ψ Z (pc + 1 + 3) lo st σ) : hv_TW l E R cells slots M Ψ Z pc lo (.long y :: .long x :: st) σ :=
  T_lcmp hd (T_if_lt hd2 ht (fun q => h1 ((lc_lt x y).mp q)) (fun q => h2 (fun z => q ((lc_lt x y).mpr z))))
theorem T_lc_ge {x y : Int64} {off : Int} {tgt : Nat} (hd : decode M.2.1 pc = .ok (.lcmp, 1)) (hd2 : decode M.2.1 (pc + 1) = .ok (.ifCond .ge off, 3)) (ht : ((pc + 1 : Nat) : Int) + off = (tgt : Int)) (h1 : y ≤ x → hv_TW l E R cells slots M Ψ Z tgt lo st σ) (h2 : ¬ y ≤ x → hv_TW l E R cells slots M Ψ Z (pc + 1 + 3) lo st σ) : hv_TW l E R cells slots M Ψ Z pc lo (.long y :: .long x :: st) σ :=
  T_lcmp hd (T_if_ge hd2 ht (fun q => h1 ((lc_ge x y).mp q)) (fun q => h2 (fun z => q ((lc_ge x y).mpr z))))
theorem T_lc_gt {x y : Int64} {off : Int} {tgt : Nat} (hd : decode M.2.1 pc = .ok (.lcmp, 1)) (hd2 : decode M.2.1 (pc + 1) = .ok (.ifCond .gt off, 3)) (ht : ((pc + 1 : Nat) : Int) + off = (tgt : Int)) (h1 : y < x → hv_TW l E R cells slots M Ψ Z tgt lo st σ) (h2 : ¬ y < x → hv_TW l E R cells slots M Ψ Z (pc + 1 + 3) lo st σ) : hv_TW l E R cells slots M Ψ Z pc lo (.long y :: .long x :: st) σ :=
  T_lcmp hd (T_if_gt hd2 ht (fun q => h1 ((lc_gt x y).mp q)) (fun q => h2 (fun z => q ((lc_gt x y).mpr z))))
theorem T_lc_le {x y : Int64} {off : Int} {tgt : Nat} (hd : decode M.2.1 pc = .ok (.lcmp, 1)) (hd2 : decode M.2.1 (pc + 1) = .ok (.ifCond .le off, 3)) (ht : ((pc + 1 : Nat) : Int) + off = (tgt : Int)) (h1 : x ≤ y → hv_TW l E R cells slots M Ψ Z tgt lo st σ) (h2 : ¬ x ≤ y → hv_TW l E R cells slots M Ψ Z (pc + 1 + 3) lo st σ) : hv_TW l E R cells slots M Ψ Z pc lo (.long y :: .long x :: st) σ :=
  T_lcmp hd (T_if_le hd2 ht (fun q => h1 ((lc_le x y).mp q)) (fun q => h2 (fun z => q ((lc_le x y).mpr z))))
theorem T_lc_eq {x y : Int64} {off : Int} {tgt : Nat} (hd : decode M.2.1 pc = .ok (.lcmp, 1)) (hd2 : decode M.2.1 (pc + 1) = .ok (.ifCond .eq off, 3)) (ht : ((pc + 1 : Nat) : Int) + off = (tgt : Int)) (h1 : x = y → hv_TW l E R cells slots M Ψ Z tgt lo st σ) (h2 : ¬ x = y → hv_TW l E R cells slots M Ψ Z (pc + 1 + 3) lo st σ) : hv_TW l E R cells slots M Ψ Z pc lo (.long y :: .long x :: st) σ :=
  T_lcmp hd (T_if_eq hd2 ht (fun q => h1 ((lc_eq x y).mp q)) (fun q => h2 (fun z => q ((lc_eq x y).mpr z))))
theorem T_lc_ne {x y : Int64} {off : Int} {tgt : Nat} (hd : decode M.2.1 pc = .ok (.lcmp, 1)) (hd2 : decode M.2.1 (pc + 1) = .ok (.ifCond .ne off, 3)) (ht : ((pc + 1 : Nat) : Int) + off = (tgt : Int)) (h1 : x ≠ y → hv_TW l E R cells slots M Ψ Z tgt lo st σ) (h2 : x = y → hv_TW l E R cells slots M Ψ Z (pc + 1 + 3) lo st σ) : hv_TW l E R cells slots M Ψ Z pc lo (.long y :: .long x :: st) σ :=
  T_lcmp hd (T_if_ne hd2 ht (fun q => h1 (fun z => q ((lc_eq x y).mpr z))) (fun q => h2 ((lc_eq x y).mp q)))
end X
-- the two texts of rules, the rows of the tally
def hv_isR (r : Nat) : Prop := r = 11 ∨ r = 13
theorem hv_isRp {r : Nat} (h : hv_isR r) : r ∈ hv_pl1 := by rcases h with rfl | rfl <;> decide
theorem hv_isRs {r : Nat} (h : hv_isR r) : hv_sh1 r = .inl (4, hv_ft4) := by rcases h with rfl | rfl <;> rfl
theorem hv_isRq {r : Nat} (h : hv_isR r) : (r + 1) ∈ hv_pl1 := by rcases h with rfl | rfl <;> decide
theorem hv_isRt {r : Nat} (h : hv_isR r) : hv_sh1 (r + 1) = .inr (0, 100) := by rcases h with rfl | rfl <;> rfl
theorem hv_row8 {i : Int32} (h : vp_in i 8) : ∃ j : Nat, j < 8 ∧ i.toNatClampNeg = j := ⟨_, Nat.not_le.mp fun q => h (Or.inr q), rfl⟩
theorem hv_rowp {i : Int32} (h : vp_in i 8) : (24 + i.toNatClampNeg) ∈ hv_pl1 := by
  obtain ⟨j, hj, e⟩ := hv_row8 h
  rw [e]
  exact (show ∀ j, j < 8 → (24 + j) ∈ hv_pl1 by decide) j hj
theorem hv_rows {i : Int32} (h : vp_in i 8) : hv_sh1 (24 + i.toNatClampNeg) = .inr (1, 9) := by
  obtain ⟨j, hj, e⟩ := hv_row8 h
  rw [e]
  match j, hj with
  | 0, _ => rfl
  | 1, _ => rfl
  | 2, _ => rfl
  | 3, _ => rfl
  | 4, _ => rfl
  | 5, _ => rfl
  | 6, _ => rfl
  | 7, _ => rfl
theorem hv_ok1 {d d' : Nat} {M' : hv_M} (h : (Nat.ble (d' + 1) d && Nat.ble (8 + (M'.2.2.1 + 11) + 40 * d') (40 * d)) = true) : hv_ok (hv_rm d) 0 0 d' M' := by
  rw [Bool.and_eq_true] at h
  exact ⟨Nat.le_of_ble_eq_true h.1, Nat.le_of_ble_eq_true h.2, Nat.le_refl _, Nat.le_refl _⟩
theorem hv_ok2 {d d' : Nat} {M' : hv_M} (h : d' + 1 ≤ d) (hm : M'.2.2.1 ≤ 21) : hv_ok (hv_rm d) 0 0 d' M' := by
  refine ⟨h, ?_, Nat.le_refl _, Nat.le_refl _⟩
  show 8 + (M'.2.2.1 + 11) + 40 * d' ≤ 40 * d
  omega
