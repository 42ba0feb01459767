-- rows that read and write the world, and calls
def hv_rm (d : Nat) : Room := { frames := d, cells := 0, slots := 0, locals := 40 * d }
abbrev hv_no : State → Array Value → Prop := fun _ _ => True
def hv_B (E : hv_E) (u : hv_S) (t : State) : Prop := hv_P E u t.heap
def hv_Pc (E : hv_E) (As : List Value) (σ : hv_S) : Array Value → State → Prop := va_Pc (As.map (hv_cv (hv_al E))) (fun U => hv_P E σ U.heap ∧ hv_K E U U.heap)
/-- A CALL: of method M, on As, in σ: it answers with Φ. d: how deep -/
def hv_CI (l : Launch) (E : hv_E) (d : Nat) (M : hv_M) (As : List Value) (σ : hv_S) (Φ : Int32 → hv_S → Prop) : Prop := Met l M.1 (hv_w M) (hv_rm d) (hv_Pc E As σ) (va_Qi Φ (hv_B E) (hv_A E)) 0 0 (hv_A E)
def hv_CL (l : Launch) (E : hv_E) (d : Nat) (M : hv_M) (As : List Value) (σ : hv_S) (Φ : Int64 → hv_S → Prop) : Prop := Met l M.1 (hv_w M) (hv_rm d) (hv_Pc E As σ) (va_Ql Φ (hv_B E) (hv_A E)) 0 0 (hv_A E)
def hv_CV (l : Launch) (E : hv_E) (d : Nat) (M : hv_M) (As : List Value) (σ : hv_S) (Φ : hv_S → Prop) : Prop := Met l M.1 (hv_w M) (hv_rm d) (hv_Pc E As σ) (va_Qv Φ (hv_B E) (hv_A E)) 0 0 (hv_A E)
def hv_CR (l : Launch) (E : hv_E) (d : Nat) (M : hv_M) (As : List Value) (σ : hv_S) (Φ : Nat → hv_S → Prop) : Prop := Met l M.1 (hv_w M) (hv_rm d) (hv_Pc E As σ) (va_Qr (fun u : Nat × hv_S => Φ u.1 u.2) (fun u a t => a = hv_al E u.1 ∧ hv_B E u.2 t) (hv_A E)) 0 0 (hv_A E)
def hv_ZI (E : hv_E) (Φ : Int32 → hv_S → Prop) : hv_Zt := fun below args s => MQ below (va_Qi Φ (hv_B E) (hv_A E)) args s 0 0 (hv_A E)
def hv_ZL (E : hv_E) (Φ : Int64 → hv_S → Prop) : hv_Zt := fun below args s => MQ below (va_Ql Φ (hv_B E) (hv_A E)) args s 0 0 (hv_A E)
def hv_ZV (E : hv_E) (Φ : hv_S → Prop) : hv_Zt := fun below args s => MQ below (va_Qv Φ (hv_B E) (hv_A E)) args s 0 0 (hv_A E)
def hv_ZR (E : hv_E) (Φ : Nat → hv_S → Prop) : hv_Zt := fun below args s => MQ below (va_Qr (fun u : Nat × hv_S => Φ u.1 u.2) (fun u a t => a = hv_al E u.1 ∧ hv_B E u.2 t) (hv_A E)) args s 0 0 (hv_A E)
theorem hv_args (al : Nat → Nat) : ∀ (vs : List Value) (i : Nat), lv_args i (vs.map (hv_cv al)) = (lv_args i vs).map (fun q => (q.1, hv_cv al q.2)) := by
  intro vs
  induction vs with
  | nil => intro i; rfl
  | cons v vs ih =>
    intro i
    show (i, hv_cv al v) :: lv_args (if (hv_cv al v).category = 2 then i + 2 else i + 1) (vs.map (hv_cv al)) = _
    rw [hv_cv_cat, ih]
    rfl
theorem hv_sl_len (al : Nat → Nat) : ∀ (vs : List Value), (lg_sl (vs.map (hv_cv al))).length = (lg_sl vs).length := by
  intro vs
  induction vs with
  | nil => rfl
  | cons v vs ih =>
    have e : ∀ (w : Value) (ws : List Value), lg_sl (w :: ws) = (if w.category = 2 then [.val w, .second] else [.val w]) ++ lg_sl ws := fun w ws => by simp [lg_sl]
    rw [List.map_cons, e, e, List.length_append, List.length_append, ih, hv_cv_cat]
    by_cases h : v.category = 2
    · rw [if_pos h, if_pos h]; rfl
    · rw [if_neg h, if_neg h]; rfl
section EN
variable {l : Launch} {E : hv_E} {d : Nat} {M : hv_M} {As : List Value} {σ : hv_S}
theorem hv_entry {Qc : Array Value → State → Outcome → State → Prop} (hy : plainName M.1.cls = true) (hn : (lg_sl As).length ≤ M.2.2.1)
    (h : hv_TW l E (hv_rm d) 0 0 M hv_no (fun below args s => MQ below Qc args s 0 0 (hv_A E)) 0 (lv_args 0 As) [] σ) : Met l M.1 (hv_w M) (hv_rm d) (hv_Pc E As σ) Qc 0 0 (hv_A E) := by
  refine Met.ofW (cc := M.2.1) (maxL := M.2.2.1) (ret := M.2.2.2) hy rfl ?_
  intro p e s m args below meth c s₁ B hml hv
  obtain ⟨rfl, hP, hK⟩ := hv
  rw [lg_entry_eq]
  have hl := lv_entry (As.map (hv_cv (hv_al E))) (n := M.2.2.1) (by rw [hv_sl_len]; exact hn)
  rw [hv_args] at hl
  exact h p e s m _ below meth c s.heap [] _ ⟨B.exec, B.bytes, hml, findClass_of_methodNamed B.named, atoms_spec (ws := hv_w M) B.pre, B.returns, B.notSynchronized⟩ trivial hK hP va_S.rf hl
theorem hv_entI {Φ : Int32 → hv_S → Prop} (hy : plainName M.1.cls = true) (hn : (lg_sl As).length ≤ M.2.2.1) (h : hv_TW l E (hv_rm d) 0 0 M hv_no (hv_ZI E Φ) 0 (lv_args 0 As) [] σ) : hv_CI l E d M As σ Φ := hv_entry hy hn h
theorem hv_entL {Φ : Int64 → hv_S → Prop} (hy : plainName M.1.cls = true) (hn : (lg_sl As).length ≤ M.2.2.1) (h : hv_TW l E (hv_rm d) 0 0 M hv_no (hv_ZL E Φ) 0 (lv_args 0 As) [] σ) : hv_CL l E d M As σ Φ := hv_entry hy hn h
theorem hv_entV {Φ : hv_S → Prop} (hy : plainName M.1.cls = true) (hn : (lg_sl As).length ≤ M.2.2.1) (h : hv_TW l E (hv_rm d) 0 0 M hv_no (hv_ZV E Φ) 0 (lv_args 0 As) [] σ) : hv_CV l E d M As σ Φ := hv_entry hy hn h
theorem hv_entR {Φ : Nat → hv_S → Prop} (hy : plainName M.1.cls = true) (hn : (lg_sl As).length ≤ M.2.2.1) (h : hv_TW l E (hv_rm d) 0 0 M hv_no (hv_ZR E Φ) 0 (lv_args 0 As) [] σ) : hv_CR l E d M As σ Φ := hv_entry hy hn h
end EN
section U
variable {l : Launch} {E : hv_E} {R : Room} {cells slots : Nat} {M : hv_M} {Ψ : State → Array Value → Prop} {Z : hv_Zt} {pc : Nat} {lo : List (Nat × Value)} {st : List Value} {σ : hv_S}
-- ends
theorem T_iret {Φ : Int32 → hv_S → Prop} {v : Int32} (hd : decode M.2.1 pc = .ok (.ireturn, 1)) (hr : M.2.2.2 = some .int) (h : Φ v σ) : hv_TW l E R 0 0 M Ψ (hv_ZI E Φ) pc lo [.int v] σ := by
  intro p e s m args below meth c H locs ls hf hΨ hK hP hS hl
  exact W.iret hf.1 hf.2.1 (hf.2.2.2.2.2.1.trans hr) (fun t ht hW => ⟨⟨v, σ, rfl, h, by unfold hv_B; rw [ht]; exact hP⟩, hS.F ht⟩) hS.2.2 hd hf.2.2.2.2.2.2
theorem T_zret {Φ : Int32 → hv_S → Prop} {v : Int32} (hd : decode M.2.1 pc = .ok (.ireturn, 1)) (hr : M.2.2.2 = some .boolean) (hz : v = 0 ∨ v = 1) (h : Φ v σ) : hv_TW l E R 0 0 M Ψ (hv_ZI E Φ) pc lo [.int v] σ := by
  intro p e s m args below meth c H locs ls hf hΨ hK hP hS hl
  exact W.zret hf.1 hf.2.1 (hf.2.2.2.2.2.1.trans hr) (by rcases hz with rfl | rfl <;> rfl) (fun t ht hW => ⟨⟨v, σ, rfl, h, by unfold hv_B; rw [ht]; exact hP⟩, hS.F ht⟩) hS.2.2 hd hf.2.2.2.2.2.2
theorem T_xret {Φ : Int32 → hv_S → Prop} {v : Int32} {ty : FieldType} (hd : decode M.2.1 pc = .ok (.ireturn, 1)) (hr : M.2.2.2 = some ty) (hn : narrow ty (.int v) = .int v) (h : Φ v σ) : hv_TW l E R 0 0 M Ψ (hv_ZI E Φ) pc lo [.int v] σ := by
  intro p e s m args below meth c H locs ls hf hΨ hK hP hS hl
  exact W.zret hf.1 hf.2.1 (hf.2.2.2.2.2.1.trans hr) hn (fun t ht hW => ⟨⟨v, σ, rfl, h, by unfold hv_B; rw [ht]; exact hP⟩, hS.F ht⟩) hS.2.2 hd hf.2.2.2.2.2.2
theorem T_lret {Φ : Int64 → hv_S → Prop} {v : Int64} (hd : decode M.2.1 pc = .ok (.lreturn, 1)) (hr : M.2.2.2 = some .long) (h : Φ v σ) : hv_TW l E R 0 0 M Ψ (hv_ZL E Φ) pc lo [.long v] σ := by
  intro p e s m args below meth c H locs ls hf hΨ hK hP hS hl
  exact W.lret hf.1 hf.2.1 (hf.2.2.2.2.2.1.trans hr) (fun t ht hW => ⟨⟨v, σ, rfl, h, by unfold hv_B; rw [ht]; exact hP⟩, hS.F ht⟩) hS.2.2 hd hf.2.2.2.2.2.2
theorem T_vret {Φ : hv_S → Prop} (hd : decode M.2.1 pc = .ok (.return_, 1)) (hr : M.2.2.2 = none) (h : Φ σ) : hv_TW l E R 0 0 M Ψ (hv_ZV E Φ) pc lo [] σ := by
  intro p e s m args below meth c H locs ls hf hΨ hK hP hS hl
  exact W.vret hf.1 hf.2.1 (hf.2.2.2.2.2.1.trans hr) (fun t ht hW => ⟨⟨σ, rfl, h, by unfold hv_B; rw [ht]; exact hP⟩, hS.F ht⟩) hS.2.2 hd hf.2.2.2.2.2.2
theorem T_aret {Φ : Nat → hv_S → Prop} {v : Nat} {ty : FieldType} (hd : decode M.2.1 pc = .ok (.areturn, 1)) (hr : M.2.2.2 = some ty) (hty : (∃ n, ty = .object n) ∨ ∃ t, ty = .array t) (h : Φ v σ) : hv_TW l E R 0 0 M Ψ (hv_ZR E Φ) pc lo [.ref v] σ := by
  intro p e s m args below meth c H locs ls hf hΨ hK hP hS hl
  exact W.aret hf.1 hf.2.1 (hf.2.2.2.2.2.1.trans hr) hty (Or.inr ⟨_, rfl⟩) (fun t ht hW => ⟨⟨(v, σ), hv_al E v, rfl, h, rfl, by unfold hv_B; rw [ht]; exact hP⟩, hS.F ht⟩) hS.2.2 hd hf.2.2.2.2.2.2
-- arrays
theorem hv_atR {k : Nat} {a : Nat × Nat} (h : hv_sh E k = .inr a) : hv_at E σ k = (hv_al E k, hv_cell (hv_al E) (hv_T E) σ k (.inr a)) := by unfold hv_at; rw [h]
theorem hv_atL {k : Nat} {o : Nat × List (Nat × Nat)} (h : hv_sh E k = .inl o) : hv_at E σ k = (hv_al E k, .inr (o.1, (hv_fs σ k 0 o.2).map (hv_cv (hv_al E)))) := by unfold hv_at; rw [h]; rfl
theorem T_iald {a n : Nat} {i : Int32} (hd : decode M.2.1 pc = .ok (.iaload, 1)) (ha : a ∈ hv_pl E) (hs : hv_sh E a = .inr (0, n)) (hin : vp_in i n) (k : hv_TW l E R cells slots M Ψ Z (pc + 1) lo (.int (σ.1 a i.toNatClampNeg) :: st) σ) : hv_TW l E R cells slots M Ψ Z pc lo (.int i :: .ref a :: st) σ := by
  intro p e s m args below meth c H locs ls hf hΨ hK hP hS hl
  obtain ⟨q0, hq⟩ := hv_P.place (σ := σ) ha
  rw [hv_atR hs] at hq
  exact va_iald hf.1 hf.2.1 hK.1 hP.1 q0 0 hq rfl hin hd (k p e s m args below meth c H locs ls hf hΨ hK hP hS hl)
theorem T_zald {a n : Nat} {i : Int32} (hd : decode M.2.1 pc = .ok (.baload, 1)) (ha : a ∈ hv_pl E) (hs : hv_sh E a = .inr (2, n)) (hin : vp_in i n) (k : hv_TW l E R cells slots M Ψ Z (pc + 1) lo (.int (σ.1 a i.toNatClampNeg) :: st) σ) : hv_TW l E R cells slots M Ψ Z pc lo (.int i :: .ref a :: st) σ := by
  intro p e s m args below meth c H locs ls hf hΨ hK hP hS hl
  obtain ⟨q0, hq⟩ := hv_P.place (σ := σ) ha
  rw [hv_atR hs] at hq
  exact va_zald hf.1 hf.2.1 hK.1 hP.1 q0 2 hq rfl hin hd (k p e s m args below meth c H locs ls hf hΨ hK hP hS hl)
theorem T_lald {a n : Nat} {i : Int32} (hd : decode M.2.1 pc = .ok (.laload, 1)) (ha : a ∈ hv_pl E) (hs : hv_sh E a = .inr (1, n)) (hin : vp_in i n) (k : hv_TW l E R cells slots M Ψ Z (pc + 1) lo (.long (σ.2.1 a i.toNatClampNeg) :: st) σ) : hv_TW l E R cells slots M Ψ Z pc lo (.int i :: .ref a :: st) σ := by
  intro p e s m args below meth c H locs ls hf hΨ hK hP hS hl
  obtain ⟨q0, hq⟩ := hv_P.place (σ := σ) ha
  rw [hv_atR hs] at hq
  exact va_lald hf.1 hf.2.1 hK.1 hP.1 q0 1 hq rfl hin hd (k p e s m args below meth c H locs ls hf hΨ hK hP hS hl)
theorem T_aald {a n b : Nat} {i : Int32} (hd : decode M.2.1 pc = .ok (.aaload, 1)) (ha : a ∈ hv_pl E) (hs : hv_sh E a = .inr (b + 3, n)) (hin : vp_in i n) (k : hv_TW l E R cells slots M Ψ Z (pc + 1) lo (.ref (b + i.toNatClampNeg) :: st) σ) : hv_TW l E R cells slots M Ψ Z pc lo (.int i :: .ref a :: st) σ := by
  intro p e s m args below meth c H locs ls hf hΨ hK hP hS hl
  obtain ⟨q0, hq⟩ := hv_P.place (σ := σ) ha
  rw [hv_atR hs] at hq
  have hlt : i.toNatClampNeg < n := Nat.not_le.mp fun q => hin (Or.inr q)
  have k2 := k p e s m args below meth c H locs ls hf hΨ hK hP hS hl
  refine W.aald (v := .ref (hv_al E (b + i.toNatClampNeg))) (ty := .array .long) hf.1 hf.2.1 (hP.1 q0 _ hq) ((hK.1.2 3 (hv_T E 3, .array .long) rfl).1 n (fun j => va_rf (if j < n then some (hv_al E (b + j)) else none))) rfl (fun q => by cases q) (by show ¬ (i < 0 ∨ (arrV _ _ _).slots.size ≤ _); rw [arrV_size]; exact hin) (by show (arrV _ _ _).slots[_]? = _; rw [arrV_read _ _ hlt]; show some (va_rf (if i.toNatClampNeg < n then some (hv_al E (b + i.toNatClampNeg)) else none)) = _; rw [if_pos hlt]; rfl) rfl rfl hd k2
theorem T_iast {a n : Nat} {i x : Int32} (hd : decode M.2.1 pc = .ok (.iastore, 1)) (ha : a ∈ hv_pl E) (hs : hv_sh E a = .inr (0, n)) (hin : vp_in i n) (k : hv_TW l E R cells slots M Ψ Z (pc + 1) lo st (hv_ui σ a i.toNatClampNeg x)) : hv_TW l E R cells slots M Ψ Z pc lo (.int x :: .int i :: .ref a :: st) σ := by
  intro p e s m args below meth c H locs ls hf hΨ hK hP hS hl
  obtain ⟨q0, hq0⟩ := List.getElem?_of_mem ha
  have hq : (hv_ws E σ)[q0]? = some (hv_at E σ a) := by unfold hv_ws; rw [List.getElem?_map, hq0]; rfl
  have he := hv_ws_set (σ' := hv_ui σ a i.toNatClampNeg x) hP hq0 (fun j _ h => hv_ui_at h)
  rw [hv_atR hs] at hq he
  have hc : hv_cell (hv_al E) (hv_T E) (hv_ui σ a i.toNatClampNeg x) a (.inr (0, n)) = .inl (hv_T E 0, n, .inl (upd (σ.1 a) i.toNatClampNeg x)) := by
    show Sum.inl (hv_T E 0, n, Sum.inl ((hv_ui σ a i.toNatClampNeg x).1 a)) = _
    congr 4
    funext j
    simp [hv_ui, upd]
  rw [hc] at he
  refine va_iast hf.1 hf.2.1 hK.1 hP.1 hP.2 hS q0 0 hq rfl hin hd (fun H1 locs1 h1 h2 h3 => ?_)
  rw [he] at h1 h2
  exact k p e s m args below meth c H1 locs1 ls hf hΨ hK ⟨h1, h2⟩ h3 hl
theorem T_zast {a n : Nat} {i x : Int32} (hd : decode M.2.1 pc = .ok (.bastore, 1)) (ha : a ∈ hv_pl E) (hs : hv_sh E a = .inr (2, n)) (hin : vp_in i n) (hx : x = 0 ∨ x = 1) (k : hv_TW l E R cells slots M Ψ Z (pc + 1) lo st (hv_ui σ a i.toNatClampNeg x)) : hv_TW l E R cells slots M Ψ Z pc lo (.int x :: .int i :: .ref a :: st) σ := by
  intro p e s m args below meth c H locs ls hf hΨ hK hP hS hl
  obtain ⟨q0, hq0⟩ := List.getElem?_of_mem ha
  have hq : (hv_ws E σ)[q0]? = some (hv_at E σ a) := by unfold hv_ws; rw [List.getElem?_map, hq0]; rfl
  have he := hv_ws_set (σ' := hv_ui σ a i.toNatClampNeg x) hP hq0 (fun j _ h => hv_ui_at h)
  rw [hv_atR hs] at hq he
  have hc : hv_cell (hv_al E) (hv_T E) (hv_ui σ a i.toNatClampNeg x) a (.inr (2, n)) = .inl (hv_T E 2, n, .inl (upd (σ.1 a) i.toNatClampNeg x)) := by
    show Sum.inl (hv_T E 2, n, Sum.inl ((hv_ui σ a i.toNatClampNeg x).1 a)) = _
    congr 4
    funext j
    simp [hv_ui, upd]
  rw [hc] at he
  refine va_zast hf.1 hf.2.1 hK.1 hP.1 hP.2 hS q0 2 hq rfl hin hd (fun H1 locs1 h1 h2 h3 => ?_)
  have hx2 : vp_nar .boolean x = x := by rcases hx with rfl | rfl <;> rfl
  rw [hx2, he] at h1 h2
  exact k p e s m args below meth c H1 locs1 ls hf hΨ hK ⟨h1, h2⟩ h3 hl
theorem T_last {a n : Nat} {i : Int32} {x : Int64} (hd : decode M.2.1 pc = .ok (.lastore, 1)) (ha : a ∈ hv_pl E) (hs : hv_sh E a = .inr (1, n)) (hin : vp_in i n) (k : hv_TW l E R cells slots M Ψ Z (pc + 1) lo st (hv_ul σ a i.toNatClampNeg x)) : hv_TW l E R cells slots M Ψ Z pc lo (.long x :: .int i :: .ref a :: st) σ := by
  intro p e s m args below meth c H locs ls hf hΨ hK hP hS hl
  obtain ⟨q0, hq0⟩ := List.getElem?_of_mem ha
  have hq : (hv_ws E σ)[q0]? = some (hv_at E σ a) := by unfold hv_ws; rw [List.getElem?_map, hq0]; rfl
  have he := hv_ws_set (σ' := hv_ul σ a i.toNatClampNeg x) hP hq0 (fun j _ h => hv_ul_at h)
  rw [hv_atR hs] at hq he
  have hc : hv_cell (hv_al E) (hv_T E) (hv_ul σ a i.toNatClampNeg x) a (.inr (1, n)) = .inl (hv_T E 1, n, .inr (.inl (vp_updL (σ.2.1 a) i.toNatClampNeg x))) := by
    show Sum.inl (hv_T E 1, n, Sum.inr (Sum.inl ((hv_ul σ a i.toNatClampNeg x).2.1 a))) = _
    congr 5
    funext j
    simp [hv_ul, vp_updL]
  rw [hc] at he
  refine va_last hf.1 hf.2.1 hK.1 hP.1 hP.2 hS q0 1 hq rfl hin hd (fun H1 locs1 h1 h2 h3 => ?_)
  rw [he] at h1 h2
  exact k p e s m args below meth c H1 locs1 ls hf hΨ hK ⟨h1, h2⟩ h3 hl
theorem T_alen {a n t : Nat} {v : Int32} (hd : decode M.2.1 pc = .ok (.arraylength, 1)) (ha : a ∈ hv_pl E) (hs : hv_sh E a = .inr (t, n)) (ht : t < 3) (hv : Int32.ofNat n = v) (k : hv_TW l E R cells slots M Ψ Z (pc + 1) lo (.int v :: st) σ) : hv_TW l E R cells slots M Ψ Z pc lo (.ref a :: st) σ := by
  intro p e s m args below meth c H locs ls hf hΨ hK hP hS hl
  obtain ⟨q0, hq⟩ := hv_P.place (σ := σ) ha
  rw [hv_atR hs] at hq
  subst hv
  rcases (show t = 0 ∨ t = 1 ∨ t = 2 by omega) with rfl | rfl | rfl
  · exact va_alen hf.1 hf.2.1 hK.1 hP.1 q0 0 hq rfl rfl hd (k p e s m args below meth c H locs ls hf hΨ hK hP hS hl)
  · exact va_alen hf.1 hf.2.1 hK.1 hP.1 q0 1 hq rfl rfl hd (k p e s m args below meth c H locs ls hf hΨ hK hP hS hl)
  · exact va_alen hf.1 hf.2.1 hK.1 hP.1 q0 2 hq rfl rfl hd (k p e s m args below meth c H locs ls hf hΨ hK hP hS hl)
end U
