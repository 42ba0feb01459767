-- THE LAW: calls of the class and of the reference
section LC
variable {l : Launch} {e : hv_Ev} {A1 A2 : Nat → Prop} {b L : Nat} {xs : Nat → Int32} {cells slots pc : Nat} {lo : List (Nat × Value)} {st : List Value} {σ1 σ2 : hv_S}
theorem Y_tbl : ∀ w ∈ hv_all, w ∈ lw_tbl := fun _ hw => (List.mem_filter.mp hw).1
theorem Y_good {M' : hv_M} (h : Cond.code M'.1 M'.2.1 M'.2.2.1 M'.2.2.2 ∈ hv_all) : GoodIn hv_all (hv_w M') := by
  intro w hw
  rcases List.mem_cons.mp hw with rfl | hw
  · exact ⟨h, hv_good _ h⟩
  · exact ⟨hw, hv_good _ hw⟩
/-- a call out of the law: of M', by object a of the world E -/
theorem Y_run {d idx ci a n : Nat} {E : hv_E} {σ : hv_S} {fts : List (Nat × Nat)} {M' : hv_M} {As : List Value} {Qc : Array Value → State → Outcome → State → Prop} (hd : decode code pc = .ok (.invokevirtual idx, 3)) (mv : hv_MV RL idx ci M' n) (ha : a ∈ hv_pl E) (hs : hv_sh E a = .inl (ci, fts)) (hn : As.length = n) (hav : As.map (hv_cv (hv_al E)) = As) (hst : (st.map fun v => v.category).sum ≤ 8)
    (ok : d + 1 ≤ 2048 ∧ 8 + (M'.2.2.1 + 11) + 40 * d ≤ 84000) (hcs : cells ≤ 600000 ∧ slots ≤ 7302249) (hc : Met l M'.1 (hv_w M') (hv_rm d) (hv_Pc E (.ref a :: As) σ) Qc 0 0 (hv_A E))
    {p : Program} {ee : Env} {s : State} {m : MethodId} {below : List Frame} {meth : Method} {c : Code} {H : Heap} {locs : List Loc} {ls : Array Slot} (h0 : lw_At p s m meth c b L xs) (hK0 : va_K (hv_D E) vwCl (hv_tys E) s) (hnst : ∀ w ∈ hv_nst, va_Nw w s) (hKE : ∀ U : State, U.heap = H → s.WarmedH U.vm → hv_K E U U.heap) (hP : hv_P E σ H) (hl : lv_has ls 4 lo) :
    va_Run p l ee room_1 s m #[Value.ref b] below meth c H locs cells slots 0 0 (F0 m pc ls (As.reverse ++ .ref (hv_al E a) :: st)) st (Qc (Value.ref (hv_al E a) :: As).toArray) (hv_A E) := by
  obtain ⟨q0, hq⟩ := hv_P.place (σ := σ) ha
  rw [hv_atL hs] at hq
  obtain ⟨⟨w1, w2, w3⟩, w4, w5, ⟨T, N, w6⟩, w7⟩ := mv
  have hb : ∀ w ∈ hv_all, w.before #[Value.ref b] s = true := fun w hw => h0.2.2.2.2.2.1 w (Y_tbl w hw)
  have hrecv := va_recv (q := (M'.1.cls, T, N)) hK0 hP.1 w6 hq
  have hpre : PreV s H M'.1.cls (hv_al E a) (hv_Pc E (.ref a :: As) σ) As := ⟨hv_Pc_blind, hrecv, fun U hU hW => ⟨by show _ = (List.map (hv_cv (hv_al E)) (.ref a :: As)).toArray; rw [List.map_cons, hav]; rfl, by rw [hU]; exact hP, hKE U hU hW⟩⟩
  have hQ : (Value.ref (hv_al E a) :: As) = (Value.ref a :: As).map (hv_cv (hv_al E)) := by rw [List.map_cons, hav]; rfl
  rcases w7 with w7 | ⟨host, w7⟩
  · exact va_runV (As := As) (rest := st) (b := hv_al E a) (Ts := hv_all) (own := RL) ⟨h0.1, h0.2.1, h0.2.2.2.1, h0.2.2.2.2.1, hb⟩ hc ⟨callB_of n hb (Y_good w1) rfl rfl rfl (hb _ w3) (hb _ w7) w2 ⟨ok.1, ok.2⟩, hb _ w4, hb _ w5⟩ hpre rfl hn hl.1 rfl (lv_room hst) hd ⟨hcs.1, hcs.2⟩
  · exact va_runVN (As := As) (rest := st) (b := hv_al E a) (Ts := hv_all) (own := RL) (host := host) ⟨h0.1, h0.2.1, h0.2.2.2.1, h0.2.2.2.2.1, hb⟩ hc ⟨va_cnB n hb (Y_good w1) rfl rfl rfl (hnst _ w7) (hb _ w3) w2 ⟨ok.1, ok.2⟩, hb _ w4, hb _ w5⟩ hpre rfl hn hl.1 rfl (lv_room hst) hd ⟨hcs.1, hcs.2⟩
theorem Y_kept {E : hv_E} {σ : hv_S} {B : Nat → Prop} {H H1 : Heap} (h : hv_P E σ H) (hq : ∀ q : Nat, q < H.size → ¬ B q → H1[q]? = H[q]?) (hd : ∀ q, hv_A E q → ¬ B q) : hv_P E σ H1 := ⟨h.1.kept (fun k x hx => hq x.1 ((h.1 k x hx).lt) (hd _ (h.2.2 k x hx))), h.2⟩
theorem Y_XI {d idx n : Nat} {M' : hv_M} {As st0 : List Value} {Φ : Int32 → hv_S → Prop} (hd : decode code pc = .ok (.invokevirtual idx, 3)) (mv : hv_MV RL idx 9 M' n) (hn : As.length = n) (hav : As.map (hv_cv e.1) = As) (hst : (st.map fun v => v.category).sum ≤ 8)
    (ok : d + 1 ≤ 2048 ∧ 8 + (M'.2.2.1 + 11) + 40 * d ≤ 84000) (hcs : cells ≤ 600000 ∧ slots ≤ 7302249) (hst0 : As.reverse ++ .ref (e.1 0) :: st = st0) (hc : hv_CI l (hv_e1 (e.1, e.2.1, e.2.2.1, A1)) d M' (.ref 0 :: As) σ1 Φ)
    (k : ∀ (v : Int32) (σ' : hv_S), Φ v σ' → hv_LT l e A1 A2 b L xs cells slots (pc + 3) lo (.int v :: st) σ' σ2) : hv_LT l e A1 A2 b L xs cells slots pc lo st0 σ1 σ2 := by
  intro p ee s m below meth c H locs ls h0 h1 h2 h3 h4 h5 h6 h7 h8 hl
  subst hst0
  refine va_calli (Y_run (E := hv_e1 (e.1, e.2.1, e.2.2.1, A1)) (a := 0) (fts := hv_ft9) hd mv hp_0 rfl hn hav hst ok hcs hc h0 h1.1 h1.2.1 (fun U hU hW => (h1.moved hW (H1 := U.heap) (by rw [hU]; exact h8.2.1)).narrow rfl rfl (fun _ _ => rfl) h3) h6 hl) h8 (fun q _ h => h3 q h) (fun q h => h3 q h) (fun r u t H1 locs1 ht hvm hw hB hz hk hS1 => ?_)
  exact k r u hw p ee s m below meth c H1 locs1 ls h0 h1 h2 h3 h4 h5 (show hv_P _ u H1 by unfold hv_B at hB; rw [← ht]; exact hB) (Y_kept h7 hk (fun q hq z => h5 q z hq)) hS1 hl
theorem Y_MI {d idx n : Nat} {M' : hv_M} {As st0 : List Value} {Φ : Int32 → hv_S → Prop} (hd : decode code pc = .ok (.invokevirtual idx, 3)) (mv : hv_MV RL idx 10 M' n) (hn : As.length = n) (hav : As.map (hv_cv e.1) = As) (hst : (st.map fun v => v.category).sum ≤ 8)
    (ok : d + 1 ≤ 2048 ∧ 8 + (M'.2.2.1 + 11) + 40 * d ≤ 84000) (hcs : cells ≤ 600000 ∧ slots ≤ 7302249) (hst0 : As.reverse ++ .ref (e.1 60) :: st = st0) (hc : hv_CI l (hv_e2 (e.1, e.2.1, e.2.2.1, A2)) d M' (.ref 60 :: As) σ2 Φ)
    (k : ∀ (v : Int32) (σ' : hv_S), Φ v σ' → hv_LT l e A1 A2 b L xs cells slots (pc + 3) lo (.int v :: st) σ1 σ') : hv_LT l e A1 A2 b L xs cells slots pc lo st0 σ1 σ2 := by
  intro p ee s m below meth c H locs ls h0 h1 h2 h3 h4 h5 h6 h7 h8 hl
  subst hst0
  refine va_calli (Y_run (E := hv_e2 (e.1, e.2.1, e.2.2.1, A2)) (a := 60) (fts := hv_ft10) hd mv (show 60 ∈ hv_pl2 by decide) rfl hn hav hst ok hcs hc h0 h1.1 h1.2.1 (fun U hU hW => (h1.moved hW (H1 := U.heap) (by rw [hU]; exact h8.2.1)).narrow rfl rfl (fun _ _ => rfl) h4) h7 hl) h8 (fun q _ h => h4 q h) (fun q h => h4 q h) (fun r u t H1 locs1 ht hvm hw hB hz hk hS1 => ?_)
  exact k r u hw p ee s m below meth c H1 locs1 ls h0 h1 h2 h3 h4 h5 (Y_kept h6 hk h5) (show hv_P _ u H1 by unfold hv_B at hB; rw [← ht]; exact hB) hS1 hl
theorem Y_XL {d idx n : Nat} {M' : hv_M} {As st0 : List Value} {Φ : Int64 → hv_S → Prop} (hd : decode code pc = .ok (.invokevirtual idx, 3)) (mv : hv_MV RL idx 9 M' n) (hn : As.length = n) (hav : As.map (hv_cv e.1) = As) (hst : (st.map fun v => v.category).sum ≤ 8)
    (ok : d + 1 ≤ 2048 ∧ 8 + (M'.2.2.1 + 11) + 40 * d ≤ 84000) (hcs : cells ≤ 600000 ∧ slots ≤ 7302249) (hst0 : As.reverse ++ .ref (e.1 0) :: st = st0) (hc : hv_CL l (hv_e1 (e.1, e.2.1, e.2.2.1, A1)) d M' (.ref 0 :: As) σ1 Φ)
    (k : ∀ (v : Int64) (σ' : hv_S), Φ v σ' → hv_LT l e A1 A2 b L xs cells slots (pc + 3) lo (.long v :: st) σ' σ2) : hv_LT l e A1 A2 b L xs cells slots pc lo st0 σ1 σ2 := by
  intro p ee s m below meth c H locs ls h0 h1 h2 h3 h4 h5 h6 h7 h8 hl
  subst hst0
  refine va_calll (Y_run (E := hv_e1 (e.1, e.2.1, e.2.2.1, A1)) (a := 0) (fts := hv_ft9) hd mv hp_0 rfl hn hav hst ok hcs hc h0 h1.1 h1.2.1 (fun U hU hW => (h1.moved hW (H1 := U.heap) (by rw [hU]; exact h8.2.1)).narrow rfl rfl (fun _ _ => rfl) h3) h6 hl) h8 (fun q _ h => h3 q h) (fun q h => h3 q h) (fun r u t H1 locs1 ht hvm hw hB hz hk hS1 => ?_)
  exact k r u hw p ee s m below meth c H1 locs1 ls h0 h1 h2 h3 h4 h5 (show hv_P _ u H1 by unfold hv_B at hB; rw [← ht]; exact hB) (Y_kept h7 hk (fun q hq z => h5 q z hq)) hS1 hl
theorem Y_ML {d idx n : Nat} {M' : hv_M} {As st0 : List Value} {Φ : Int64 → hv_S → Prop} (hd : decode code pc = .ok (.invokevirtual idx, 3)) (mv : hv_MV RL idx 10 M' n) (hn : As.length = n) (hav : As.map (hv_cv e.1) = As) (hst : (st.map fun v => v.category).sum ≤ 8)
    (ok : d + 1 ≤ 2048 ∧ 8 + (M'.2.2.1 + 11) + 40 * d ≤ 84000) (hcs : cells ≤ 600000 ∧ slots ≤ 7302249) (hst0 : As.reverse ++ .ref (e.1 60) :: st = st0) (hc : hv_CL l (hv_e2 (e.1, e.2.1, e.2.2.1, A2)) d M' (.ref 60 :: As) σ2 Φ)
    (k : ∀ (v : Int64) (σ' : hv_S), Φ v σ' → hv_LT l e A1 A2 b L xs cells slots (pc + 3) lo (.long v :: st) σ1 σ') : hv_LT l e A1 A2 b L xs cells slots pc lo st0 σ1 σ2 := by
  intro p ee s m below meth c H locs ls h0 h1 h2 h3 h4 h5 h6 h7 h8 hl
  subst hst0
  refine va_calll (Y_run (E := hv_e2 (e.1, e.2.1, e.2.2.1, A2)) (a := 60) (fts := hv_ft10) hd mv (show 60 ∈ hv_pl2 by decide) rfl hn hav hst ok hcs hc h0 h1.1 h1.2.1 (fun U hU hW => (h1.moved hW (H1 := U.heap) (by rw [hU]; exact h8.2.1)).narrow rfl rfl (fun _ _ => rfl) h4) h7 hl) h8 (fun q _ h => h4 q h) (fun q h => h4 q h) (fun r u t H1 locs1 ht hvm hw hB hz hk hS1 => ?_)
  exact k r u hw p ee s m below meth c H1 locs1 ls h0 h1 h2 h3 h4 h5 (Y_kept h6 hk h5) (show hv_P _ u H1 by unfold hv_B at hB; rw [← ht]; exact hB) hS1 hl
end LC
