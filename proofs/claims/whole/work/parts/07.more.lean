-- more rows
section X
variable {l : Launch} {E : hv_E} {R : Room} {cells slots : Nat} {M : hv_M} {Ψ : State → Array Value → Prop} {Z : hv_Zt} {pc : Nat} {lo : List (Nat × Value)} {st : List Value} {σ : hv_S}
theorem T_topi {x : Int32} (k : ∀ y : Int32, y = x → hv_TW l E R cells slots M Ψ Z pc lo (.int y :: st) σ) : hv_TW l E R cells slots M Ψ Z pc lo (.int x :: st) σ := k x rfl
theorem T_topl {x : Int64} (k : ∀ y : Int64, y = x → hv_TW l E R cells slots M Ψ Z pc lo (.long y :: st) σ) : hv_TW l E R cells slots M Ψ Z pc lo (.long x :: st) σ := k x rfl
theorem T_ldcw {i : Nat} {v : Int32} (hd : decode M.2.1 pc = .ok (.ldc_w i, 3)) (hw : Cond.constant M.1.cls i v ∈ hv_all) (k : hv_TW l E R cells slots M Ψ Z (pc + 3) lo (.int v :: st) σ) : hv_TW l E R cells slots M Ψ Z pc lo st σ := by
  intro p e s m args below meth c H locs ls hf hΨ hK hP hS hl
  exact lv_ldcw hf.1 hf.2.1 hf.2.2.2.1 (hf.2.2.2.2.1 _ (List.mem_cons_of_mem _ hw)) hd (k p e s m args below meth c H locs ls hf hΨ hK hP hS hl)
theorem lc_cases (x y : Int64) : (x < y ∧ lg_cmp x y = -1) ∨ (x = y ∧ lg_cmp x y = 0) ∨ (y < x ∧ lg_cmp x y = 1) := by
  unfold lg_cmp
  by_cases h1 : x > y
  · right; right; exact ⟨h1, by rw [if_pos h1]⟩
  · by_cases h2 : x = y
    · right; left; exact ⟨h2, by rw [if_neg h1, if_pos h2]⟩
    · left
      refine ⟨?_, by rw [if_neg h1, if_neg h2]⟩
      simp only [gt_iff_lt, Int64.lt_iff_toInt_lt, ← Int64.toInt_inj] at *
      omega
theorem lc_lt (x y : Int64) : lg_cmp x y < 0 ↔ x < y := by
  rcases lc_cases x y with ⟨h, e⟩ | ⟨h, e⟩ | ⟨h, e⟩ <;> rw [e]
  · exact ⟨fun _ => h, fun _ => by decide⟩
  · exact ⟨fun q => absurd q (by decide), fun q => by subst h; simp only [Int64.lt_iff_toInt_lt] at q; omega⟩
  · exact ⟨fun q => absurd q (by decide), fun q => by simp only [Int64.lt_iff_toInt_lt] at *; omega⟩
theorem lc_eq (x y : Int64) : lg_cmp x y = 0 ↔ x = y := by
  rcases lc_cases x y with ⟨h, e⟩ | ⟨h, e⟩ | ⟨h, e⟩ <;> rw [e]
  · exact ⟨fun q => absurd q (by decide), fun q => by subst q; simp only [Int64.lt_iff_toInt_lt] at h; omega⟩
  · exact ⟨fun _ => h, fun _ => rfl⟩
  · exact ⟨fun q => absurd q (by decide), fun q => by subst q; simp only [Int64.lt_iff_toInt_lt] at h; omega⟩
theorem lc_gt (x y : Int64) : 0 < lg_cmp x y ↔ y < x := by
  rcases lc_cases x y with ⟨h, e⟩ | ⟨h, e⟩ | ⟨h, e⟩ <;> rw [e]
  · exact ⟨fun q => absurd q (by decide), fun q => by simp only [Int64.lt_iff_toInt_lt] at *; omega⟩
  · exact ⟨fun q => absurd q (by decide), fun q => by subst h; simp only [Int64.lt_iff_toInt_lt] at q; omega⟩
  · exact ⟨fun _ => h, fun _ => by decide⟩
theorem lc_ge (x y : Int64) : 0 ≤ lg_cmp x y ↔ y ≤ x := by
  rcases lc_cases x y with ⟨h, e⟩ | ⟨h, e⟩ | ⟨h, e⟩ <;> rw [e]
  · exact ⟨fun q => absurd q (by decide), fun q => by simp only [Int64.lt_iff_toInt_lt, Int64.le_iff_toInt_le] at *; omega⟩
  · exact ⟨fun _ => by subst h; simp only [Int64.le_iff_toInt_le]; omega, fun _ => by decide⟩
  · exact ⟨fun _ => by simp only [Int64.lt_iff_toInt_lt, Int64.le_iff_toInt_le] at *; omega, fun _ => by decide⟩
theorem lc_le (x y : Int64) : lg_cmp x y ≤ 0 ↔ x ≤ y := by
  rcases lc_cases x y with ⟨h, e⟩ | ⟨h, e⟩ | ⟨h, e⟩ <;> rw [e]
  · exact ⟨fun _ => by simp only [Int64.lt_iff_toInt_lt, Int64.le_iff_toInt_le] at *; omega, fun _ => by decide⟩
  · exact ⟨fun _ => by subst h; simp only [Int64.le_iff_toInt_le]; omega, fun _ => by decide⟩
  · exact ⟨fun q => absurd q (by decide), fun q => by simp only [Int64.lt_iff_toInt_lt, Int64.le_iff_toInt_le] at *; omega⟩
theorem T_lc_lt {x y : Int64} {off : Int} {tgt : Nat} (hd : decode M.2.1 pc = .ok (.lcmp, 1)) (hd2 : decode M.2.1 (pc + 1) = .ok (.ifCond .lt off, 3)) (ht : ((pc + 1 : Nat) : Int) + off = (tgt : Int)) (h1 : x < y → hv_TW l E R cells slots M Ψ Z tgt lo st σ) (h2 : ¬ x < y → hv_TW l E R cells slots M Ψ Z (pc + 1 + 3) lo st σ) : hv_TW l E R cells slots M Ψ Z pc lo (.long y :: .long x :: st) σ :=
  T_lcmp hd (T_if_lt hd2 ht (fun q => h1 ((lc_lt x y).mp q)) (fun q => h2 (fun z => q ((lc_lt x y).mpr z))))
theorem T_lc_ge {x y : Int64} {off : Int} {tgt : Nat} (hd : decode M.2.1 pc = .ok (.lcmp, 1)) (hd2 : decode M.2.1 (pc + 1) = .ok (.ifCond .ge off, 3)) (ht : ((pc + 1 : Nat) : Int) + off = (tgt : Int)) (h1 : y ≤ x → hv_TW l E R cells slots M Ψ Z tgt lo st σ) (h2 : ¬ y ≤ x → hv_TW l E R cells slots M Ψ Z (pc + 1 + 3) lo st σ) : hv_TW l E R cells slots M Ψ Z pc lo (.long y :: .long x :: st) σ :=
  T_lcmp hd (T_if_ge hd2 ht (fun q => h1 ((lc_ge x y).mp q)) (fun q => h2 (fun z => q ((lc_ge x y).mpr z))))
theorem T_lc_gt {x y : Int64} {off : Int} {tgt : Nat} (hd : decode M.2.1 pc = .ok (.lcmp, 1)) (hd2 : decode M.2.1 (pc + 1) = .ok (.ifCond .gt off, 3)) (ht : ((pc + 1 : Nat) : Int) + off = (tgt : Int)) (h1 : y < x → hv_TW l E R cells slots M Ψ Z tgt lo st σ) (h2 : ¬ y < x → hv_TW l E R cells slots M Ψ Z (pc + 1 + 3) lo st σ) : hv_TW l E R cells slots M Ψ Z pc lo (.long y :: .long x :: st) σ :=
  T_lcmp hd (T_if_gt hd2 ht (fun q => h1 ((lc_gt x y).mp q)) (fun q => h2 (fun z => q ((lc_gt x y).mpr z))))
theorem T_lc_le {x y : Int64} {off : Int} {tgt : Nat} (hd : decode M.2.1 pc = .ok (.lcmp, 1)) (hd2 : decode M.2.1 (pc + 1) = .ok (.ifCond .le off, 3)) (ht : ((pc + 1 : Nat) : Int) + off = (tgt : Int)) (h1 : x ≤ y → hv_TW l E R cells slots M Ψ Z tgt lo st σ) (h2 : ¬ x ≤ y → hv_TW l E R cells slots M Ψ Z (pc + 1 + 3) lo st σ) : hv_TW l E R cells slots M Ψ Z pc lo (.long y :: .long x :: st) σ :=
  T_lcmp hd (T_if_le hd2 ht (fun q => h1 ((lc_le x y).mp q)) (fun q => h2 (fun z => q ((lc_le x y).mpr z))))
theorem T_lc_eq {x y : Int64} {off : Int} {tgt : Nat} (hd : decode M.2.1 pc = .ok (.lcmp, 1)) (hd2 : decode M.2.1 (pc + 1) = .ok (.ifCond .eq off, 3)) (ht : ((pc + 1 : Nat) : Int) + off = (tgt : Int)) (h1 : x = y → hv_TW l E R cells slots M Ψ Z tgt lo st σ) (h2 : ¬ x = y → hv_TW l E R cells slots M Ψ Z (pc + 1 + 3) lo st σ) : hv_TW l E R cells slots M Ψ Z pc lo (.long y :: .long x :: st) σ :=
  T_lcmp hd (T_if_eq hd2 ht (fun q => h1 ((lc_eq x y).mp q)) (fun q => h2 (fun z => q ((lc_eq x y).mpr z))))
theorem T_lc_ne {x y : Int64} {off : Int} {tgt : Nat} (hd : decode M.2.1 pc = .ok (.lcmp, 1)) (hd2 : decode M.2.1 (pc + 1) = .ok (.ifCond .ne off, 3)) (ht : ((pc + 1 : Nat) : Int) + off = (tgt : Int)) (h1 : x ≠ y → hv_TW l E R cells slots M Ψ Z tgt lo st σ) (h2 : x = y → hv_TW l E R cells slots M Ψ Z (pc + 1 + 3) lo st σ) : hv_TW l E R cells slots M Ψ Z pc lo (.long y :: .long x :: st) σ :=
  T_lcmp hd (T_if_ne hd2 ht (fun q => h1 (fun z => q ((lc_eq x y).mpr z))) (fun q => h2 ((lc_eq x y).mp q)))
end X
-- the two texts of rules, the rows of the tally
def hv_isR (r : Nat) : Prop := r = 11 ∨ r = 13
theorem hv_isRp {r : Nat} (h : hv_isR r) : r ∈ hv_pl1 := by rcases h with rfl | rfl <;> decide
theorem hv_isRs {r : Nat} (h : hv_isR r) : hv_sh1 r = .inl (4, hv_ft4) := by rcases h with rfl | rfl <;> rfl
theorem hv_isRq {r : Nat} (h : hv_isR r) : (r + 1) ∈ hv_pl1 := by rcases h with rfl | rfl <;> decide
theorem hv_isRt {r : Nat} (h : hv_isR r) : hv_sh1 (r + 1) = .inr (0, 100) := by rcases h with rfl | rfl <;> rfl
theorem hv_row8 {i : Int32} (h : vp_in i 8) : ∃ j : Nat, j < 8 ∧ i.toNatClampNeg = j := ⟨_, Nat.not_le.mp fun q => h (Or.inr q), rfl⟩
theorem hv_rowp {i : Int32} (h : vp_in i 8) : (24 + i.toNatClampNeg) ∈ hv_pl1 := by
  obtain ⟨j, hj, e⟩ := hv_row8 h
  rw [e]
  exact (show ∀ j, j < 8 → (24 + j) ∈ hv_pl1 by decide) j hj
theorem hv_rows {i : Int32} (h : vp_in i 8) : hv_sh1 (24 + i.toNatClampNeg) = .inr (1, 9) := by
  obtain ⟨j, hj, e⟩ := hv_row8 h
  rw [e]
  match j, hj with
  | 0, _ => rfl
  | 1, _ => rfl
  | 2, _ => rfl
  | 3, _ => rfl
  | 4, _ => rfl
  | 5, _ => rfl
  | 6, _ => rfl
  | 7, _ => rfl
theorem hv_ok1 {d d' : Nat} {M' : hv_M} (h : (Nat.ble (d' + 1) d && Nat.ble (8 + (M'.2.2.1 + 11) + 40 * d') (40 * d)) = true) : hv_ok (hv_rm d) 0 0 d' M' := by
  rw [Bool.and_eq_true] at h
  exact ⟨Nat.le_of_ble_eq_true h.1, Nat.le_of_ble_eq_true h.2, Nat.le_refl _, Nat.le_refl _⟩
theorem hv_ok2 {d d' : Nat} {M' : hv_M} (h : d' + 1 ≤ d) (hm : M'.2.2.1 ≤ 21) : hv_ok (hv_rm d) 0 0 d' M' := by
  refine ⟨h, ?_, Nat.le_refl _, Nat.le_refl _⟩
  show 8 + (M'.2.2.1 + 11) + 40 * d' ≤ 40 * d
  omega
section Y
variable {l : Launch} {E : hv_E} {R : Room} {cells slots : Nat} {M : hv_M} {Ψ : State → Array Value → Prop} {Z : hv_Zt} {pc : Nat} {lo : List (Nat × Value)} {st : List Value} {σ : hv_S}
theorem T_ldcS {idx i : Nat} (hd : decode M.2.1 pc = .ok (.ldc idx, 2)) (hm : M.1.cls = RX1) (hi : i < 7) (hx : hv_si.getD i 0 = idx) (k : hv_TW l E R cells slots M Ψ Z (pc + 2) lo (.ref (1000 + i) :: st) σ) : hv_TW l E R cells slots M Ψ Z pc lo st σ := by
  intro p e s m args below meth c H locs ls hf hΨ hK hP hS hl
  have h := hK.2.2.1 i hi
  rw [hx, ← hm] at h
  exact va_ldcS hf.1 hf.2.1 hf.2.2.2.1 h hd (k p e s m args below meth c H locs ls hf hΨ hK hP hS hl)
theorem T_getSv {idx i : Nat} (hd : decode M.2.1 pc = .ok (.getfield idx, 3)) (hi : i < 7) (hw : Cond.fieldLink M.1.cls idx "java/lang/String" "value" "[B" ∈ hv_all) (k : hv_TW l E R cells slots M Ψ Z (pc + 3) lo (.ref (2000 + i) :: st) σ) : hv_TW l E R cells slots M Ψ Z pc lo (.ref (1000 + i) :: st) σ := by
  intro p e s m args below meth c H locs ls hf hΨ hK hP hS hl
  exact vk_getf hf.1 hf.2.1 (hK.2.2.2.1.1 i hi).2.2.1 hS hf.2.2.2.1 (hf.2.2.2.2.1 _ (List.mem_cons_of_mem _ hw)) (fun _ h => h) hd (k p e s m args below meth c H locs ls hf hΨ hK hP hS hl)
theorem T_getSc {idx i : Nat} (hd : decode M.2.1 pc = .ok (.getfield idx, 3)) (hi : i < 7) (hw : Cond.fieldLink M.1.cls idx "java/lang/String" "coder" "B" ∈ hv_all) (k : hv_TW l E R cells slots M Ψ Z (pc + 3) lo (.int 0 :: st) σ) : hv_TW l E R cells slots M Ψ Z pc lo (.ref (1000 + i) :: st) σ := by
  intro p e s m args below meth c H locs ls hf hΨ hK hP hS hl
  exact vk_getf hf.1 hf.2.1 (hK.2.2.2.1.1 i hi).2.1 hS hf.2.2.2.1 (hf.2.2.2.2.1 _ (List.mem_cons_of_mem _ hw)) (fun _ h => h) hd (k p e s m args below meth c H locs ls hf hΨ hK hP hS hl)
theorem T_getsC {idx : Nat} (hd : decode M.2.1 pc = .ok (.getstatic idx, 3)) (hw : Cond.fieldLink M.1.cls idx "java/lang/String" "COMPACT_STRINGS" "Z" ∈ hv_all) (k : hv_TW l E R cells slots M Ψ Z (pc + 3) lo (.int 1 :: st) σ) : hv_TW l E R cells slots M Ψ Z pc lo st σ := by
  intro p e s m args below meth c H locs ls hf hΨ hK hP hS hl
  exact va_gets hf.1 hf.2.1 hK.2.2.2.2.1 hS hf.2.2.2.1 (hf.2.2.2.2.1 _ (List.mem_cons_of_mem _ hw)) (fun _ h => h) hd (k p e s m args below meth c H locs ls hf hΨ hK hP hS hl)
theorem T_getsF {idx : Nat} (hd : decode M.2.1 pc = .ok (.getstatic idx, 3)) (hw : Cond.fieldLink M.1.cls idx "jdk/internal/util/Preconditions" "SIOOBE_FORMATTER" "Ljava/util/function/BiFunction;" ∈ hv_all) (k0 : hv_TW l E R cells slots M Ψ Z (pc + 3) lo (.null :: st) σ) (k : hv_TW l E R cells slots M Ψ Z (pc + 3) lo (.ref 3000 :: st) σ) : hv_TW l E R cells slots M Ψ Z pc lo st σ := by
  intro p e s m args below meth c H locs ls hf hΨ hK hP hS hl
  rcases hK.2.2.2.2.2 with g | g
  · exact va_gets hf.1 hf.2.1 g hS hf.2.2.2.1 (hf.2.2.2.2.1 _ (List.mem_cons_of_mem _ hw)) (fun _ h => h) hd (k0 p e s m args below meth c H locs ls hf hΨ hK hP hS hl)
  · exact va_gets hf.1 hf.2.1 g hS hf.2.2.2.1 (hf.2.2.2.2.1 _ (List.mem_cons_of_mem _ hw)) (fun _ h => h) hd (k p e s m args below meth c H locs ls hf hΨ hK hP hS hl)
theorem T_alenS {i : Nat} {v : Int32} (hd : decode M.2.1 pc = .ok (.arraylength, 1)) (hi : i < 7) (hv : Int32.ofNat (hv_len.getD i 0) = v) (k : hv_TW l E R cells slots M Ψ Z (pc + 1) lo (.int v :: st) σ) : hv_TW l E R cells slots M Ψ Z pc lo (.ref (2000 + i) :: st) σ := by
  intro p e s m args below meth c H locs ls hf hΨ hK hP hS hl
  exact va_tlen hf.1 hf.2.1 (hK.2.2.2.1.1 i hi).2.2.2 hS hv hd (k p e s m args below meth c H locs ls hf hΨ hK hP hS hl)
theorem T_baldS {i : Nat} {j : Int32} (hd : decode M.2.1 pc = .ok (.baload, 1)) (hi : i < 7) (hin : vp_in j (hv_len.getD i 0)) (k : hv_TW l E R cells slots M Ψ Z (pc + 1) lo (.int ((hv_byt.getD i []).getD j.toNatClampNeg 0) :: st) σ) : hv_TW l E R cells slots M Ψ Z pc lo (.int j :: .ref (2000 + i) :: st) σ := by
  intro p e s m args below meth c H locs ls hf hΨ hK hP hS hl
  exact va_tb hf.1 hf.2.1 (hK.2.2.2.1.1 i hi).2.2.2 hS hin rfl hd (k p e s m args below meth c H locs ls hf hΨ hK hP hS hl)
theorem T_VIs {d idx i n : Nat} {M' : hv_M} {As st0 : List Value} {Φ : Int32 → hv_S → Prop} (hd : decode M.2.1 pc = .ok (.invokevirtual idx, 3)) (mv : hv_MV0 M.1.cls idx M' n) (hi : i < 7) (hS' : M'.1.cls = "java/lang/String") (hn : As.length = n) (hst : (st.map fun v => v.category).sum ≤ 8) (ok : hv_ok R cells slots d M') (h0 : As.reverse ++ .ref (1000 + i) :: st = st0)
    (hc : hv_CI l E d M' (.ref (1000 + i) :: As) σ Φ) (k : ∀ (v : Int32) (σ' : hv_S), Φ v σ' → hv_TW l E R cells slots M Ψ Z (pc + 3) lo (.int v :: st) σ') : hv_TW l E R cells slots M Ψ Z pc lo st0 σ := by
  intro p e s m args below meth c H locs ls hf hΨ hK hP hS hl
  subst h0
  exact va_calli (hv_runV0 hd mv hn hst ok hc (by rw [hS']; exact vk_recv (i := i) hK.2.2.2.1 hi hS) hf hK hP hS hl) hS (fun q _ h => h) (fun q h => h) (fun r u t H1 locs1 ht hvm hw hB hz hk hS1 => k r u hw p e s m args below meth c H1 locs1 ls hf hΨ hK (by unfold hv_B at hB; rw [← ht]; exact hB) hS1 hl)
end Y
-- System.arraycopy within one row of longs
def hv_cp (σ : hv_S) (a : Nat) (sp dp n : Int32) : hv_S := (σ.1, fun k j => if k = a then va_cpy (σ.2.1 a) (σ.2.1 a) sp.toNatClampNeg dp.toNatClampNeg n.toNatClampNeg j else σ.2.1 k j, σ.2.2)
def hv_AC (own : String) (idx : Nat) : Prop := Cond.methodLink own idx arraycopyName ∈ hv_all ∧ Cond.native arraycopyName ∈ hv_all ∧ Cond.static arraycopyName ∈ hv_all ∧ Cond.initialized "java/lang/System" ∈ hv_all
theorem own_acopy : hv_AC RX7 30 := ⟨by decide +kernel, by decide +kernel, by decide +kernel, by decide +kernel⟩
theorem T_acopy {l : Launch} {E : hv_E} {R : Room} {cells slots : Nat} {M : hv_M} {Ψ : State → Array Value → Prop} {Z : hv_Zt} {pc : Nat} {lo : List (Nat × Value)} {st : List Value} {σ : hv_S}
    {idx a N : Nat} {sp dp n : Int32} (hd : decode M.2.1 pc = .ok (.invokestatic idx, 3)) (ac : hv_AC M.1.cls idx) (ha : a ∈ hv_pl E) (hs : hv_sh E a = .inr (1, N)) (h : ¬ sp < 0 ∧ ¬ dp < 0 ∧ ¬ n < 0 ∧ sp.toNatClampNeg + n.toNatClampNeg ≤ N ∧ dp.toNatClampNeg + n.toNatClampNeg ≤ N)
    (hR : 1 ≤ R.frames ∧ (st.map fun v => v.category).sum + (nativeFrameWords "java/lang/System" "arraycopy" 5 + 11) ≤ R.locals) (k : hv_TW l E R cells slots M Ψ Z (pc + 3) lo st (hv_cp σ a sp dp n)) : hv_TW l E R cells slots M Ψ Z pc lo (.int n :: .int dp :: .ref a :: .int sp :: .ref a :: st) σ := by
  intro p e s m args below meth c H locs ls hf hΨ hK hP hS hl
  obtain ⟨q0, hq0⟩ := List.getElem?_of_mem ha
  have hq : (hv_ws E σ)[q0]? = some (hv_at E σ a) := by unfold hv_ws; rw [List.getElem?_map, hq0]; rfl
  have he := hv_ws_set (σ' := hv_cp σ a sp dp n) hP hq0 (fun j _ h => hv_at_congr (fun _ => rfl) (fun i => if_neg h) (fun _ => rfl))
  rw [hv_atR hs] at hq he
  have hc : hv_cell (hv_al E) (hv_T E) (hv_cp σ a sp dp n) a (.inr (1, N)) = .inl (hv_T E 1, N, .inr (.inl (va_cpy (σ.2.1 a) (σ.2.1 a) sp.toNatClampNeg dp.toNatClampNeg n.toNatClampNeg))) := by
    show Sum.inl (hv_T E 1, N, Sum.inr (Sum.inl ((hv_cp σ a sp dp n).2.1 a))) = _
    congr 5
    funext j
    simp [hv_cp]
  rw [hc] at he
  have hcat : ((st.map (hv_cv (hv_al E))).map fun v => v.category).sum + (nativeFrameWords "java/lang/System" "arraycopy" 5 + 11) ≤ R.locals := by
    rw [List.map_map]
    have e2 : ((fun v : Value => v.category) ∘ hv_cv (hv_al E)) = fun v : Value => v.category := funext fun v => hv_cv_cat _ _
    rw [e2]; exact hR.2
  have hb : ∀ w ∈ hv_all, w.before args s = true := fun w hw => hf.2.2.2.2.1 w (List.mem_cons_of_mem _ hw)
  refine va_copyl hf.1 hf.2.1 (hf.2.2.1.trans hl.1.symm) hf.2.2.2.1 (hb _ ac.1) (hb _ ac.2.1) (hb _ ac.2.2.1) (hb _ ac.2.2.2) hK.1 hP.1 hP.2 hS q0 q0 1 1 hq hq rfl rfl rfl h.1 h.2.1 h.2.2.1 h.2.2.2.1 h.2.2.2.2 (fun _ _ => rfl) hR.1 hcat hd (fun H1 locs1 h1 h2 h3 => ?_)
  rw [he] at h1 h2
  exact k p e s m args below meth c H1 locs1 ls hf hΨ hK ⟨h1, h2⟩ h3 hl
