-- fields, by a link of the own class's pool: class ci, field j
def hv_FL (own : String) (idx ci j : Nat) : Prop := ∃ (C : String) (T : u_T) (N : Nat) (ty : Nat → FieldType), vwCl[ci]? = some (C, T, N) ∧ j < N ∧ (∀ w ∈ u_ws C T N, w ∈ hv_all) ∧ (T j).1 = C ∧
  (∀ k, k < N → parseFieldDescriptor (T k).2.2.1 = some (ty k)) ∧ (∀ a, a < N → ∀ b, b < N → a ≠ b → (T a).2.1 ≠ (T b).2.1) ∧
  (Cond.fieldLink own idx C (T j).2.1 (T j).2.2.1 ∈ hv_all ∨ ∃ host, Cond.fieldLinkNest own idx C (T j).2.1 (T j).2.2.1 host ∈ hv_nst)
def hv_PF (ci j : Nat) (ty : FieldType) : Prop := ∃ (C : String) (T : u_T) (N : Nat), vwCl[ci]? = some (C, T, N) ∧ (T j).2.2.2 = false ∧ parseFieldDescriptor (T j).2.2.1 = some ty
/-- a method, and how many it takes beside this -/
def hv_MW (M : hv_M) (n : Nat) : Prop := Cond.code M.1 M.2.1 M.2.2.1 M.2.2.2 ∈ hv_all ∧ (M.1.cls ≠ "java/lang/invoke/MethodHandle" ∧ M.1.cls ≠ "java/lang/invoke/VarHandle" ∧ (parseMethodDescriptor M.1.desc).map (fun d => d.parameters.length) = some n) ∧ Cond.initialized M.1.cls ∈ hv_all
def hv_MV (own : String) (idx ci : Nat) (M : hv_M) (n : Nat) : Prop := hv_MW M n ∧ Cond.instanceMethod M.1 ∈ hv_all ∧ Cond.selects M.1.cls M.1 M.1 ∈ hv_all ∧ (∃ (T : u_T) (N : Nat), vwCl[ci]? = some (M.1.cls, T, N)) ∧
  (Cond.methodLink own idx M.1 ∈ hv_all ∨ ∃ host, Cond.methodLinkNest own idx M.1 host ∈ hv_nst)
def hv_MS (own : String) (idx : Nat) (M : hv_M) (n : Nat) : Prop := hv_MW M n ∧ Cond.static M.1 ∈ hv_all ∧ (Cond.methodLink own idx M.1 ∈ hv_all ∨ ∃ host, Cond.methodLinkNest own idx M.1 host ∈ hv_nst)
theorem hv_good (w : Cond) (h : w ∈ hv_all) : (w.onTables && w.keeps) = true ∨ ∃ ty, w = .arrayClass ty := good_of_word (List.mem_filter.mp h).2
theorem hv_goodIn {M M' : hv_M} (h : Cond.code M'.1 M'.2.1 M'.2.2.1 M'.2.2.2 ∈ hv_all) : GoodIn (hv_w M) (hv_w M') := by
  intro w hw
  rcases List.mem_cons.mp hw with rfl | hw
  · exact ⟨List.mem_cons_of_mem _ h, hv_good _ h⟩
  · exact ⟨List.mem_cons_of_mem _ hw, hv_good _ hw⟩
theorem hv_Pc_blind {E : hv_E} {As : List Value} {σ : hv_S} : FrameBlind (hv_Pc E As σ) := fun a U g mk q => ⟨q.1, q.2.1, hv_K.same (s := U) (U := U.calling g mk a) q.2.2 rfl⟩
section V
variable {l : Launch} {E : hv_E} {R : Room} {cells slots : Nat} {M : hv_M} {Ψ : State → Array Value → Prop} {Z : hv_Zt} {pc : Nat} {lo : List (Nat × Value)} {st : List Value} {σ : hv_S}
theorem T_get {a idx ci j : Nat} {fts : List (Nat × Nat)} {v : Value} (hd : decode M.2.1 pc = .ok (.getfield idx, 3)) (fl : hv_FL M.1.cls idx ci j) (ha : a ∈ hv_pl E) (hs : hv_sh E a = .inl (ci, fts)) {ft : Nat × Nat} (hft : fts[j]? = some ft) (hv : hv_fv σ a j ft = v)
    (k : hv_TW l E R cells slots M Ψ Z (pc + 3) lo (v :: st) σ) : hv_TW l E R cells slots M Ψ Z pc lo (.ref a :: st) σ := by
  intro p e s m args below meth c H locs ls hf hΨ hK hP hS hl
  obtain ⟨q0, hq⟩ := hv_P.place (σ := σ) ha
  rw [hv_atL hs] at hq
  obtain ⟨C, T, N, ty, h1, h2, h3, h4, h5, h6, h7⟩ := fl
  subst hv
  have hfs : ((hv_fs σ a 0 fts).map (hv_cv (hv_al E)))[j]? = some (hv_cv (hv_al E) (hv_fv σ a j ft)) := by
    rw [List.getElem?_map, hv_fs_get fts 0 j ft hft, Nat.zero_add]; rfl
  have kk := k p e s m args below meth c H locs ls hf hΨ hK hP hS hl
  rcases h7 with h7 | ⟨host, h7⟩
  · exact va_get (C := C) (T := T) (N := N) hf.1 hf.2.1 hf.2.2.2.2.1 (fun w hw => List.mem_cons_of_mem _ (h3 w hw)) hf.2.2.2.1 hK.1 hP.1 q0 hq h1 j h2 (hf.2.2.2.2.1 _ (List.mem_cons_of_mem _ h7)) (fun x hx => by rw [h4] at hx; exact hx) hfs hd kk
  · exact va_getN (C := C) (T := T) (N := N) (host := host) hf.1 hf.2.1 hf.2.2.2.2.1 (fun w hw => List.mem_cons_of_mem _ (h3 w hw)) hf.2.2.2.1 hK.1 hP.1 q0 hq h1 j h2 (va_Nw.use rfl (hK.2.1 _ h7)) (fun x hx => by rw [h4] at hx; exact hx) hfs hd kk
/-- a field written: v for v', the world σ' -/
theorem T_put {a idx ci j : Nat} {fts : List (Nat × Nat)} {v : Value} {σ' : hv_S} {ty : FieldType} (hd : decode M.2.1 pc = .ok (.putfield idx, 3)) (fl : hv_FL M.1.cls idx ci j) (pf : hv_PF ci j ty) (ha : a ∈ hv_pl E) (hs : hv_sh E a = .inl (ci, fts)) {ft : Nat × Nat} (hft : fts[j]? = some ft)
    (hn : narrow ty (hv_cv (hv_al E) v) = hv_cv (hv_al E) v) (hfit : fits ty (hv_cv (hv_al E) v) = true) (hv : hv_fv σ' a j ft = v) (ho : ∀ i ft, i ≠ j → hv_fv σ' a i ft = hv_fv σ a i ft) (hoo : ∀ k', k' ≠ a → hv_at E σ' k' = hv_at E σ k')
    (k : hv_TW l E R cells slots M Ψ Z (pc + 3) lo st σ') : hv_TW l E R cells slots M Ψ Z pc lo (v :: .ref a :: st) σ := by
  intro p e s m args below meth c H locs ls hf hΨ hK hP hS hl
  obtain ⟨q0, hq0⟩ := List.getElem?_of_mem ha
  have hq : (hv_ws E σ)[q0]? = some (hv_at E σ a) := by unfold hv_ws; rw [List.getElem?_map, hq0]; rfl
  have he := hv_ws_set (σ' := σ') hP hq0 (fun j' _ h => hoo j' h)
  rw [hv_atL hs] at hq he
  obtain ⟨C, T, N, tys, h1, h2, h3, h4, h5, h6, h7⟩ := fl
  obtain ⟨C', T', N', g1, g2, g3⟩ := pf
  have e1 : (C', T', N') = (C, T, N) := Option.some.inj (g1.symm.trans h1)
  cases e1
  have hj : j < fts.length := (List.getElem?_eq_some_iff.mp hft).1
  have hset : ((hv_fs σ a 0 fts).map (hv_cv (hv_al E))).set j (hv_cv (hv_al E) v) = (hv_fs σ' a 0 fts).map (hv_cv (hv_al E)) := by
    rw [← List.map_set, hv_fs_ext (σ' := σ') (fun ft' h' => by rw [hft] at h'; cases h'; exact hv) ho]
  have kk : ∀ (H1 : Heap) (locs1 : List Loc), va_P (hv_D E) vwCl ((hv_ws E σ).set q0 (hv_al E a, .inr (ci, ((hv_fs σ a 0 fts).map (hv_cv (hv_al E))).set j (hv_cv (hv_al E) v)))) H1 → va_D (hv_A E) ((hv_ws E σ).set q0 (hv_al E a, .inr (ci, ((hv_fs σ a 0 fts).map (hv_cv (hv_al E))).set j (hv_cv (hv_al E) v)))) → va_S (hv_A E) s.heap H1 locs1 → W p l e R s m args below meth c H1 locs1 cells slots (Z below args s) (F0 m (pc + 3) ls (st.map (hv_cv (hv_al E)))) := by
    intro H1 locs1 k1 k2 k3
    rw [hset, he] at k1 k2
    exact k p e s m args below meth c H1 locs1 ls hf hΨ hK ⟨k1, k2⟩ k3 hl
  have hlen : j < ((hv_fs σ a 0 fts).map (hv_cv (hv_al E))).length := by rw [List.length_map, hv_fs_len]; exact hj
  rcases h7 with h7 | ⟨host, h7⟩
  · exact va_put (C := C) (T := T) (N := N) (ty := ty) hf.1 hf.2.1 hf.2.2.2.2.1 (fun w hw => List.mem_cons_of_mem _ (h3 w hw)) tys h5 h6 hf.2.2.2.1 hK.1 hP.1 hP.2 hS q0 hq h1 j h2 (hf.2.2.2.2.1 _ (List.mem_cons_of_mem _ h7)) (fun x hx => by rw [h4] at hx; exact hx) g2 g3 hn hfit hlen hd kk
  · exact va_putN (C := C) (T := T) (N := N) (ty := ty) (host := host) hf.1 hf.2.1 hf.2.2.2.2.1 (fun w hw => List.mem_cons_of_mem _ (h3 w hw)) tys h5 h6 hf.2.2.2.1 hK.1 hP.1 hP.2 hS q0 hq h1 j h2 (va_Nw.use rfl (hK.2.1 _ h7)) (fun x hx => by rw [h4] at hx; exact hx) g2 g3 hn hfit hlen hd kk
theorem T_puti {a idx ci j : Nat} {fts : List (Nat × Nat)} {x : Int32} (hd : decode M.2.1 pc = .ok (.putfield idx, 3)) (fl : hv_FL M.1.cls idx ci j) (pf : hv_PF ci j .int) (ha : a ∈ hv_pl E) (hs : hv_sh E a = .inl (ci, fts)) (hft : fts[j]? = some (0, 0))
    (k : hv_TW l E R cells slots M Ψ Z (pc + 3) lo st (hv_ui σ a j x)) : hv_TW l E R cells slots M Ψ Z pc lo (.int x :: .ref a :: st) σ :=
  T_put (σ' := hv_ui σ a j x) hd fl pf ha hs hft rfl rfl (by simp [hv_fv, hv_ui]) (fun i ft h => by unfold hv_fv; simp [hv_ui, h]) (fun k' h => hv_ui_at h) k
theorem T_putz {a idx ci j : Nat} {fts : List (Nat × Nat)} {x : Int32} (hd : decode M.2.1 pc = .ok (.putfield idx, 3)) (fl : hv_FL M.1.cls idx ci j) (pf : hv_PF ci j .boolean) (ha : a ∈ hv_pl E) (hs : hv_sh E a = .inl (ci, fts)) (hft : fts[j]? = some (1, 0)) (hx : x = 0 ∨ x = 1)
    (k : hv_TW l E R cells slots M Ψ Z (pc + 3) lo st (hv_ui σ a j x)) : hv_TW l E R cells slots M Ψ Z pc lo (.int x :: .ref a :: st) σ :=
  T_put (σ' := hv_ui σ a j x) hd fl pf ha hs hft (by rcases hx with rfl | rfl <;> rfl) (by rcases hx with rfl | rfl <;> rfl) (by simp [hv_fv, hv_ui]) (fun i ft h => by unfold hv_fv; simp [hv_ui, h]) (fun k' h => hv_ui_at h) k
theorem T_putl {a idx ci j : Nat} {fts : List (Nat × Nat)} {x : Int64} (hd : decode M.2.1 pc = .ok (.putfield idx, 3)) (fl : hv_FL M.1.cls idx ci j) (pf : hv_PF ci j .long) (ha : a ∈ hv_pl E) (hs : hv_sh E a = .inl (ci, fts)) (hft : fts[j]? = some (2, 0))
    (k : hv_TW l E R cells slots M Ψ Z (pc + 3) lo st (hv_ul σ a j x)) : hv_TW l E R cells slots M Ψ Z pc lo (.long x :: .ref a :: st) σ :=
  T_put (σ' := hv_ul σ a j x) hd fl pf ha hs hft rfl rfl (by simp [hv_fv, hv_ul]) (fun i ft h => by unfold hv_fv; simp [hv_ul, h]) (fun k' h => hv_ul_at h) k
theorem T_putr {a idx ci j : Nat} {fts : List (Nat × Nat)} {x : Nat} {C : String} (hd : decode M.2.1 pc = .ok (.putfield idx, 3)) (fl : hv_FL M.1.cls idx ci j) (pf : hv_PF ci j (.object C)) (ha : a ∈ hv_pl E) (hs : hv_sh E a = .inl (ci, fts)) (hft : fts[j]? = some (5, 0))
    (k : hv_TW l E R cells slots M Ψ Z (pc + 3) lo st (hv_ur σ a j x)) : hv_TW l E R cells slots M Ψ Z pc lo (.ref x :: .ref a :: st) σ :=
  T_put (σ' := hv_ur σ a j x) hd fl pf ha hs hft rfl rfl (by simp [hv_fv, hv_ur]) (fun i ft h => by unfold hv_fv; simp [hv_ur, h]) (fun k' h => hv_ur_at h) k
-- calls
def hv_ok (R : Room) (cells slots d : Nat) (M' : hv_M) : Prop := d + 1 ≤ R.frames ∧ 8 + (M'.2.2.1 + 11) + 40 * d ≤ R.locals ∧ cells ≤ R.cells ∧ slots ≤ R.slots
def hv_MV0 (own : String) (idx : Nat) (M : hv_M) (n : Nat) : Prop := hv_MW M n ∧ Cond.instanceMethod M.1 ∈ hv_all ∧ Cond.selects M.1.cls M.1 M.1 ∈ hv_all ∧ (Cond.methodLink own idx M.1 ∈ hv_all ∨ ∃ host, Cond.methodLinkNest own idx M.1 host ∈ hv_nst)
theorem hv_runV0 {d idx a n : Nat} {M' : hv_M} {As : List Value} {Qc : Array Value → State → Outcome → State → Prop} (hd : decode M.2.1 pc = .ok (.invokevirtual idx, 3)) (mv : hv_MV0 M.1.cls idx M' n) (hn : As.length = n) (hst : (st.map fun v => v.category).sum ≤ 8) (ok : hv_ok R cells slots d M')
    (hc : Met l M'.1 (hv_w M') (hv_rm d) (hv_Pc E (.ref a :: As) σ) Qc 0 0 (hv_A E))
    {p : Program} {e : Env} {s : State} {m : MethodId} {args : Array Value} {below : List Frame} {meth : Method} {c : Code} {H : Heap} {locs : List Loc} {ls : Array Slot} (hrecv : ∃ cell : Cell, H[hv_al E a]? = some cell ∧ cell.vm.isStatics = false ∧ s.vm.findClass M'.1.cls = some cell.cls) (hf : hv_fix p s m args meth c M) (hK : hv_K E s s.heap) (hP : hv_P E σ H) (hS : va_S (hv_A E) s.heap H locs) (hl : lv_has ls M.2.2.1 (hv_lo E lo)) :
    va_Run p l e R s m args below meth c H locs cells slots 0 0 (F0 m pc ls ((As.reverse ++ .ref a :: st).map (hv_cv (hv_al E)))) (st.map (hv_cv (hv_al E))) (Qc ((Value.ref a :: As).map (hv_cv (hv_al E))).toArray) (hv_A E) := by
  obtain ⟨⟨w1, w2, w3⟩, w4, w5, w7⟩ := mv
  have hcat : ((st.map (hv_cv (hv_al E))).map fun v => v.category).sum ≤ 8 := by
    rw [List.map_map]
    have e2 : ((fun v : Value => v.category) ∘ hv_cv (hv_al E)) = fun v : Value => v.category := funext fun v => hv_cv_cat _ _
    rw [e2]; exact hst
  have hstk : (As.reverse ++ .ref a :: st).map (hv_cv (hv_al E)) = (As.map (hv_cv (hv_al E))).reverse ++ .ref (hv_al E a) :: st.map (hv_cv (hv_al E)) := by
    rw [List.map_append, List.map_reverse]; rfl
  rw [hstk]
  have hts := hf.2.2.2.2.1
  have hb : ∀ w ∈ hv_all, w.before args s = true := fun w hw => hts w (List.mem_cons_of_mem _ hw)
  have hpre : PreV s H M'.1.cls (hv_al E a) (hv_Pc E (.ref a :: As) σ) (As.map (hv_cv (hv_al E))) := ⟨hv_Pc_blind, hrecv, fun U hU hW => ⟨rfl, by rw [hU]; exact hP, hv_K.moved hK hW (by rw [hU]; exact hS.2.1)⟩⟩
  rcases w7 with w7 | ⟨host, w7⟩
  · exact va_runV (As := As.map (hv_cv (hv_al E))) (rest := st.map (hv_cv (hv_al E))) (b := hv_al E a) (Ts := hv_w M) ⟨hf.1, hf.2.1, hf.2.2.1, hf.2.2.2.1, hts⟩ hc ⟨callB_of n hts (hv_goodIn w1) rfl rfl rfl (hb _ w3) (hb _ w7) w2 ⟨ok.1, ok.2.1⟩, hb _ w4, hb _ w5⟩ hpre rfl (by rw [List.length_map]; exact hn) hl.1 rfl (lv_room hcat) hd ⟨ok.2.2.1, ok.2.2.2⟩
  · exact va_runVN (As := As.map (hv_cv (hv_al E))) (rest := st.map (hv_cv (hv_al E))) (b := hv_al E a) (Ts := hv_w M) (host := host) ⟨hf.1, hf.2.1, hf.2.2.1, hf.2.2.2.1, hts⟩ hc ⟨va_cnB n hts (hv_goodIn w1) rfl rfl rfl (hK.2.1 _ w7) (hb _ w3) w2 ⟨ok.1, ok.2.1⟩, hb _ w4, hb _ w5⟩ hpre rfl (by rw [List.length_map]; exact hn) hl.1 rfl (lv_room hcat) hd ⟨ok.2.2.1, ok.2.2.2⟩
theorem hv_runV {d idx ci a n : Nat} {fts : List (Nat × Nat)} {M' : hv_M} {As : List Value} {Qc : Array Value → State → Outcome → State → Prop} (hd : decode M.2.1 pc = .ok (.invokevirtual idx, 3)) (mv : hv_MV M.1.cls idx ci M' n) (ha : a ∈ hv_pl E) (hs : hv_sh E a = .inl (ci, fts)) (hn : As.length = n) (hst : (st.map fun v => v.category).sum ≤ 8) (ok : hv_ok R cells slots d M')
    (hc : Met l M'.1 (hv_w M') (hv_rm d) (hv_Pc E (.ref a :: As) σ) Qc 0 0 (hv_A E))
    {p : Program} {e : Env} {s : State} {m : MethodId} {args : Array Value} {below : List Frame} {meth : Method} {c : Code} {H : Heap} {locs : List Loc} {ls : Array Slot} (hf : hv_fix p s m args meth c M) (hK : hv_K E s s.heap) (hP : hv_P E σ H) (hS : va_S (hv_A E) s.heap H locs) (hl : lv_has ls M.2.2.1 (hv_lo E lo)) :
    va_Run p l e R s m args below meth c H locs cells slots 0 0 (F0 m pc ls ((As.reverse ++ .ref a :: st).map (hv_cv (hv_al E)))) (st.map (hv_cv (hv_al E))) (Qc ((Value.ref a :: As).map (hv_cv (hv_al E))).toArray) (hv_A E) := by
  obtain ⟨q0, hq⟩ := hv_P.place (σ := σ) ha
  rw [hv_atL hs] at hq
  obtain ⟨w1, w4, w5, ⟨T, N, w6⟩, w7⟩ := mv
  exact hv_runV0 hd ⟨w1, w4, w5, w7⟩ hn hst ok hc (va_recv (q := (M'.1.cls, T, N)) hK.1 hP.1 w6 hq) hf hK hP hS hl
theorem hv_runS {d idx n : Nat} {M' : hv_M} {As : List Value} {Qc : Array Value → State → Outcome → State → Prop} (hd : decode M.2.1 pc = .ok (.invokestatic idx, 3)) (ms : hv_MS M.1.cls idx M' n) (hn : As.length = n) (hst : (st.map fun v => v.category).sum ≤ 8) (ok : hv_ok R cells slots d M')
    (hc : Met l M'.1 (hv_w M') (hv_rm d) (hv_Pc E As σ) Qc 0 0 (hv_A E))
    {p : Program} {e : Env} {s : State} {m : MethodId} {args : Array Value} {below : List Frame} {meth : Method} {c : Code} {H : Heap} {locs : List Loc} {ls : Array Slot} (hf : hv_fix p s m args meth c M) (hK : hv_K E s s.heap) (hP : hv_P E σ H) (hS : va_S (hv_A E) s.heap H locs) (hl : lv_has ls M.2.2.1 (hv_lo E lo)) :
    va_Run p l e R s m args below meth c H locs cells slots 0 0 (F0 m pc ls ((As.reverse ++ st).map (hv_cv (hv_al E)))) (st.map (hv_cv (hv_al E))) (Qc (As.map (hv_cv (hv_al E))).toArray) (hv_A E) := by
  obtain ⟨⟨w1, w2, w3⟩, w4, w7⟩ := ms
  have hcat : ((st.map (hv_cv (hv_al E))).map fun v => v.category).sum ≤ 8 := by
    rw [List.map_map]
    have e2 : ((fun v : Value => v.category) ∘ hv_cv (hv_al E)) = fun v : Value => v.category := funext fun v => hv_cv_cat _ _
    rw [e2]; exact hst
  have hstk : (As.reverse ++ st).map (hv_cv (hv_al E)) = (As.map (hv_cv (hv_al E))).reverse ++ st.map (hv_cv (hv_al E)) := by
    rw [List.map_append, List.map_reverse]
  rw [hstk]
  have hts := hf.2.2.2.2.1
  have hb : ∀ w ∈ hv_all, w.before args s = true := fun w hw => hts w (List.mem_cons_of_mem _ hw)
  have hpre : PreS s H (hv_Pc E As σ) (As.map (hv_cv (hv_al E))) := ⟨hv_Pc_blind, fun U hU hW => ⟨rfl, by rw [hU]; exact hP, hv_K.moved hK hW (by rw [hU]; exact hS.2.1)⟩⟩
  rcases w7 with w7 | ⟨host, w7⟩
  · exact va_runS (As := As.map (hv_cv (hv_al E))) (rest := st.map (hv_cv (hv_al E))) (Ts := hv_w M) ⟨hf.1, hf.2.1, hf.2.2.1, hf.2.2.2.1, hts⟩ hc ⟨callB_of n hts (hv_goodIn w1) rfl rfl rfl (hb _ w3) (hb _ w7) w2 ⟨ok.1, ok.2.1⟩, hb _ w4⟩ hpre rfl (by rw [List.length_map]; exact hn) hl.1 rfl (lv_room hcat) hd ⟨ok.2.2.1, ok.2.2.2⟩
  · exact va_runSN (As := As.map (hv_cv (hv_al E))) (rest := st.map (hv_cv (hv_al E))) (Ts := hv_w M) (host := host) ⟨hf.1, hf.2.1, hf.2.2.1, hf.2.2.2.1, hts⟩ hc ⟨va_cnB n hts (hv_goodIn w1) rfl rfl rfl (hK.2.1 _ w7) (hb _ w3) w2 ⟨ok.1, ok.2.1⟩, hb _ w4, trivial⟩ hpre rfl (by rw [List.length_map]; exact hn) hl.1 rfl (lv_room hcat) hd ⟨ok.2.2.1, ok.2.2.2⟩
theorem T_VI {d idx ci a n : Nat} {fts : List (Nat × Nat)} {M' : hv_M} {As st0 : List Value} {Φ : Int32 → hv_S → Prop} (hd : decode M.2.1 pc = .ok (.invokevirtual idx, 3)) (mv : hv_MV M.1.cls idx ci M' n) (ha : a ∈ hv_pl E) (hs : hv_sh E a = .inl (ci, fts)) (hn : As.length = n) (hst : (st.map fun v => v.category).sum ≤ 8) (ok : hv_ok R cells slots d M') (h0 : As.reverse ++ .ref a :: st = st0)
    (hc : hv_CI l E d M' (.ref a :: As) σ Φ) (k : ∀ (v : Int32) (σ' : hv_S), Φ v σ' → hv_TW l E R cells slots M Ψ Z (pc + 3) lo (.int v :: st) σ') : hv_TW l E R cells slots M Ψ Z pc lo st0 σ := by
  intro p e s m args below meth c H locs ls hf hΨ hK hP hS hl
  subst h0
  exact va_calli (hv_runV hd mv ha hs hn hst ok hc hf hK hP hS hl) hS (fun q _ h => h) (fun q h => h) (fun r u t H1 locs1 ht hvm hw hB hz hk hS1 => k r u hw p e s m args below meth c H1 locs1 ls hf hΨ hK (by unfold hv_B at hB; rw [← ht]; exact hB) hS1 hl)
theorem T_VL {d idx ci a n : Nat} {fts : List (Nat × Nat)} {M' : hv_M} {As st0 : List Value} {Φ : Int64 → hv_S → Prop} (hd : decode M.2.1 pc = .ok (.invokevirtual idx, 3)) (mv : hv_MV M.1.cls idx ci M' n) (ha : a ∈ hv_pl E) (hs : hv_sh E a = .inl (ci, fts)) (hn : As.length = n) (hst : (st.map fun v => v.category).sum ≤ 8) (ok : hv_ok R cells slots d M') (h0 : As.reverse ++ .ref a :: st = st0)
    (hc : hv_CL l E d M' (.ref a :: As) σ Φ) (k : ∀ (v : Int64) (σ' : hv_S), Φ v σ' → hv_TW l E R cells slots M Ψ Z (pc + 3) lo (.long v :: st) σ') : hv_TW l E R cells slots M Ψ Z pc lo st0 σ := by
  intro p e s m args below meth c H locs ls hf hΨ hK hP hS hl
  subst h0
  exact va_calll (hv_runV hd mv ha hs hn hst ok hc hf hK hP hS hl) hS (fun q _ h => h) (fun q h => h) (fun r u t H1 locs1 ht hvm hw hB hz hk hS1 => k r u hw p e s m args below meth c H1 locs1 ls hf hΨ hK (by unfold hv_B at hB; rw [← ht]; exact hB) hS1 hl)
theorem T_VV {d idx ci a n : Nat} {fts : List (Nat × Nat)} {M' : hv_M} {As st0 : List Value} {Φ : hv_S → Prop} (hd : decode M.2.1 pc = .ok (.invokevirtual idx, 3)) (mv : hv_MV M.1.cls idx ci M' n) (ha : a ∈ hv_pl E) (hs : hv_sh E a = .inl (ci, fts)) (hn : As.length = n) (hst : (st.map fun v => v.category).sum ≤ 8) (ok : hv_ok R cells slots d M') (h0 : As.reverse ++ .ref a :: st = st0)
    (hc : hv_CV l E d M' (.ref a :: As) σ Φ) (k : ∀ (σ' : hv_S), Φ σ' → hv_TW l E R cells slots M Ψ Z (pc + 3) lo st σ') : hv_TW l E R cells slots M Ψ Z pc lo st0 σ := by
  intro p e s m args below meth c H locs ls hf hΨ hK hP hS hl
  subst h0
  exact va_callv (hv_runV hd mv ha hs hn hst ok hc hf hK hP hS hl) hS (fun q _ h => h) (fun q h => h) (fun u t H1 locs1 ht hvm hw hB hz hk hS1 => k u hw p e s m args below meth c H1 locs1 ls hf hΨ hK (by unfold hv_B at hB; rw [← ht]; exact hB) hS1 hl)
theorem T_VR {d idx ci a n : Nat} {fts : List (Nat × Nat)} {M' : hv_M} {As st0 : List Value} {Φ : Nat → hv_S → Prop} (hd : decode M.2.1 pc = .ok (.invokevirtual idx, 3)) (mv : hv_MV M.1.cls idx ci M' n) (ha : a ∈ hv_pl E) (hs : hv_sh E a = .inl (ci, fts)) (hn : As.length = n) (hst : (st.map fun v => v.category).sum ≤ 8) (ok : hv_ok R cells slots d M') (h0 : As.reverse ++ .ref a :: st = st0)
    (hc : hv_CR l E d M' (.ref a :: As) σ Φ) (k : ∀ (v : Nat) (σ' : hv_S), Φ v σ' → hv_TW l E R cells slots M Ψ Z (pc + 3) lo (.ref v :: st) σ') : hv_TW l E R cells slots M Ψ Z pc lo st0 σ := by
  intro p e s m args below meth c H locs ls hf hΨ hK hP hS hl
  subst h0
  refine va_callr (hv_runV hd mv ha hs hn hst ok hc hf hK hP hS hl) hS (fun q _ h => h) (fun q h => h) (fun u ra t H1 locs1 ht hvm hw hB hz hk hS1 => ?_)
  obtain ⟨rfl, hB⟩ := hB
  exact k u.1 u.2 hw p e s m args below meth c H1 locs1 ls hf hΨ hK (by unfold hv_B at hB; rw [← ht]; exact hB) hS1 hl
theorem T_SI {d idx n : Nat} {M' : hv_M} {As st0 : List Value} {Φ : Int32 → hv_S → Prop} (hd : decode M.2.1 pc = .ok (.invokestatic idx, 3)) (ms : hv_MS M.1.cls idx M' n) (hn : As.length = n) (hst : (st.map fun v => v.category).sum ≤ 8) (ok : hv_ok R cells slots d M') (h0 : As.reverse ++ st = st0)
    (hc : hv_CI l E d M' As σ Φ) (k : ∀ (v : Int32) (σ' : hv_S), Φ v σ' → hv_TW l E R cells slots M Ψ Z (pc + 3) lo (.int v :: st) σ') : hv_TW l E R cells slots M Ψ Z pc lo st0 σ := by
  intro p e s m args below meth c H locs ls hf hΨ hK hP hS hl
  subst h0
  exact va_calli (hv_runS hd ms hn hst ok hc hf hK hP hS hl) hS (fun q _ h => h) (fun q h => h) (fun r u t H1 locs1 ht hvm hw hB hz hk hS1 => k r u hw p e s m args below meth c H1 locs1 ls hf hΨ hK (by unfold hv_B at hB; rw [← ht]; exact hB) hS1 hl)
theorem T_SL {d idx n : Nat} {M' : hv_M} {As st0 : List Value} {Φ : Int64 → hv_S → Prop} (hd : decode M.2.1 pc = .ok (.invokestatic idx, 3)) (ms : hv_MS M.1.cls idx M' n) (hn : As.length = n) (hst : (st.map fun v => v.category).sum ≤ 8) (ok : hv_ok R cells slots d M') (h0 : As.reverse ++ st = st0)
    (hc : hv_CL l E d M' As σ Φ) (k : ∀ (v : Int64) (σ' : hv_S), Φ v σ' → hv_TW l E R cells slots M Ψ Z (pc + 3) lo (.long v :: st) σ') : hv_TW l E R cells slots M Ψ Z pc lo st0 σ := by
  intro p e s m args below meth c H locs ls hf hΨ hK hP hS hl
  subst h0
  exact va_calll (hv_runS hd ms hn hst ok hc hf hK hP hS hl) hS (fun q _ h => h) (fun q h => h) (fun r u t H1 locs1 ht hvm hw hB hz hk hS1 => k r u hw p e s m args below meth c H1 locs1 ls hf hΨ hK (by unfold hv_B at hB; rw [← ht]; exact hB) hS1 hl)
theorem T_SV {d idx n : Nat} {M' : hv_M} {As st0 : List Value} {Φ : hv_S → Prop} (hd : decode M.2.1 pc = .ok (.invokestatic idx, 3)) (ms : hv_MS M.1.cls idx M' n) (hn : As.length = n) (hst : (st.map fun v => v.category).sum ≤ 8) (ok : hv_ok R cells slots d M') (h0 : As.reverse ++ st = st0)
    (hc : hv_CV l E d M' As σ Φ) (k : ∀ (σ' : hv_S), Φ σ' → hv_TW l E R cells slots M Ψ Z (pc + 3) lo st σ') : hv_TW l E R cells slots M Ψ Z pc lo st0 σ := by
  intro p e s m args below meth c H locs ls hf hΨ hK hP hS hl
  subst h0
  exact va_callv (hv_runS hd ms hn hst ok hc hf hK hP hS hl) hS (fun q _ h => h) (fun q h => h) (fun u t H1 locs1 ht hvm hw hB hz hk hS1 => k u hw p e s m args below meth c H1 locs1 ls hf hΨ hK (by unfold hv_B at hB; rw [← ht]; exact hB) hS1 hl)
end V
