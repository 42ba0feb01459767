-- THE LAW'S START: printed by wip/gen/p14.py
section LS
variable {s : State} {b : Nat}
theorem lw_Ost {A : Nat → Prop} (hts : ∀ w ∈ lw_tbl, w.before #[Value.ref b] s = true) (hgv : (Jvm.Cond.and given_1 narrow_1).before #[Value.ref b] s = true) (hA : ∀ a : Nat, a < s.heap.size → ¬ A a) :
    ∃ o : Nat → Nat, (∀ i : Nat, i < 7 → vk_R RX1 (hv_si.getD i 0) (hv_sx.getD i "") (o (1000 + i)) s) ∧ vk_S 7 hv_len hv_byt (fun i => o (1000 + i)) (fun i => o (2000 + i)) A s s.heap ∧
      va_Z "java/lang/String" "COMPACT_STRINGS" "Z" (.int 1) A s s.heap ∧ (va_Z "jdk/internal/util/Preconditions" "SIOOBE_FORMATTER" "Ljava/util/function/BiFunction;" .null A s s.heap ∨ va_Z "jdk/internal/util/Preconditions" "SIOOBE_FORMATTER" "Ljava/util/function/BiFunction;" (.ref (o 3000)) A s s.heap) := by
  have hs := flat_of_before _ hgv
  have hb : ∀ w ∈ hv_all, w.before #[Value.ref b] s = true := fun w hw => hts w (Y_tbl w hw)
  obtain ⟨adK, adV, hS, hE⟩ := vk_Sof (args := #[Value.ref b]) (s := s) (N := 7) (tm := fun i => .string RX1 (hv_si.getD i 0)) (len := hv_len) (byt := hv_byt) (A := A) (by decide)
    (fun i hi => by rcases (show i = 0 ∨ i = 1 ∨ i = 2 ∨ i = 3 ∨ i = 4 ∨ i = 5 ∨ i = 6 by omega) with rfl | rfl | rfl | rfl | rfl | rfl | rfl <;> exact hs _ (by decide +kernel))
    (fun i hi => by rcases (show i = 0 ∨ i = 1 ∨ i = 2 ∨ i = 3 ∨ i = 4 ∨ i = 5 ∨ i = 6 by omega) with rfl | rfl | rfl | rfl | rfl | rfl | rfl <;> exact hs _ (by decide +kernel))
    (fun i hi => by rcases (show i = 0 ∨ i = 1 ∨ i = 2 ∨ i = 3 ∨ i = 4 ∨ i = 5 ∨ i = 6 by omega) with rfl | rfl | rfl | rfl | rfl | rfl | rfl <;> exact hs _ (by decide +kernel))
    (fun i hi => by rcases (show i = 0 ∨ i = 1 ∨ i = 2 ∨ i = 3 ∨ i = 4 ∨ i = 5 ∨ i = 6 by omega) with rfl | rfl | rfl | rfl | rfl | rfl | rfl <;> exact hs _ (by decide +kernel))
    (fun i hi j hj => by
      rcases (show i = 0 ∨ i = 1 ∨ i = 2 ∨ i = 3 ∨ i = 4 ∨ i = 5 ∨ i = 6 by omega) with rfl | rfl | rfl | rfl | rfl | rfl | rfl
      · rcases (show j = 0 ∨ j = 1 ∨ j = 2 ∨ j = 3 by have hj2 : j < 4 := hj; omega) with rfl | rfl | rfl | rfl <;> exact hs _ (by decide +kernel)
      · rcases (show j = 0 ∨ j = 1 ∨ j = 2 ∨ j = 3 by have hj2 : j < 4 := hj; omega) with rfl | rfl | rfl | rfl <;> exact hs _ (by decide +kernel)
      · rcases (show j = 0 ∨ j = 1 ∨ j = 2 ∨ j = 3 ∨ j = 4 by have hj2 : j < 5 := hj; omega) with rfl | rfl | rfl | rfl | rfl <;> exact hs _ (by decide +kernel)
      · rcases (show j = 0 ∨ j = 1 ∨ j = 2 ∨ j = 3 ∨ j = 4 by have hj2 : j < 5 := hj; omega) with rfl | rfl | rfl | rfl | rfl <;> exact hs _ (by decide +kernel)
      · rcases (show j = 0 by have hj2 : j < 1 := hj; omega) with rfl <;> exact hs _ (by decide +kernel)
      · rcases (show j = 0 ∨ j = 1 ∨ j = 2 ∨ j = 3 ∨ j = 4 by have hj2 : j < 5 := hj; omega) with rfl | rfl | rfl | rfl | rfl <;> exact hs _ (by decide +kernel)
      · rcases (show j = 0 ∨ j = 1 ∨ j = 2 by have hj2 : j < 3 := hj; omega) with rfl | rfl | rfl <;> exact hs _ (by decide +kernel))
    (fun i j hi hj hij => by
      rcases (show i = 0 ∨ i = 1 ∨ i = 2 ∨ i = 3 ∨ i = 4 ∨ i = 5 ∨ i = 6 by omega) with rfl | rfl | rfl | rfl | rfl | rfl | rfl <;> rcases (show j = 0 ∨ j = 1 ∨ j = 2 ∨ j = 3 ∨ j = 4 ∨ j = 5 ∨ j = 6 by omega) with rfl | rfl | rfl | rfl | rfl | rfl | rfl <;> first | exact absurd rfl hij | exact Or.inl (hs _ (by decide +kernel)) | exact Or.inr (hs _ (by decide +kernel)))
    hA
  obtain ⟨v, hv, hr⟩ := Cond.isRef_spec (t := .static "jdk/internal/util/Preconditions" "SIOOBE_FORMATTER" "Ljava/util/function/BiFunction;") (hs (.isRef (.static "jdk/internal/util/Preconditions" "SIOOBE_FORMATTER" "Ljava/util/function/BiFunction;")) (by decide +kernel))
  have hZ : va_Z "jdk/internal/util/Preconditions" "SIOOBE_FORMATTER" "Ljava/util/function/BiFunction;" v A s s.heap := va_Zof (args := #[Value.ref b]) (hts _ (by decide +kernel)) (hb _ (hv_in1 15 (by decide +kernel) rfl)) hv hA
  obtain ⟨f, hf⟩ : ∃ f : Nat, v = .null ∨ v = .ref f := by
    cases v <;> first | exact ⟨0, Or.inl rfl⟩ | exact ⟨_, Or.inr rfl⟩ | exact absurd hr (by decide) | exact Bool.noConfusion hr
  obtain ⟨o, ho⟩ : ∃ o : Nat → Nat, o = fun k => if k < 2000 then adK (k - 1000) else if k < 3000 then adV (k - 2000) else f := ⟨_, rfl⟩
  have e1 : ∀ i, i < 7 → o (1000 + i) = adK i := fun i hi => by rw [ho]; show (if 1000 + i < 2000 then adK (1000 + i - 1000) else _) = _; rw [if_pos (by omega), show 1000 + i - 1000 = i by omega]
  have e2 : ∀ i, i < 7 → o (2000 + i) = adV i := fun i hi => by rw [ho]; show (if 2000 + i < 2000 then _ else if 2000 + i < 3000 then adV (2000 + i - 2000) else _) = _; rw [if_neg (by omega), if_pos (by omega), show 2000 + i - 2000 = i by omega]
  have e3 : o 3000 = f := by rw [ho]; rfl
  refine ⟨o, fun i hi => ?_, ⟨fun i hi => ?_, fun i j hi hj h => hS.2 i j hi hj ?_⟩, va_Zof (args := #[Value.ref b]) (hts _ (by decide +kernel)) (hb _ (hv_in1 13 (by decide +kernel) rfl)) (va_eqi (hs _ (by decide +kernel))) hA, ?_⟩
  · rw [e1 i hi]
    refine vk_R.of (A := #[Value.ref b]) ?_ (hE i hi)
    rcases (show i = 0 ∨ i = 1 ∨ i = 2 ∨ i = 3 ∨ i = 4 ∨ i = 5 ∨ i = 6 by omega) with rfl | rfl | rfl | rfl | rfl | rfl | rfl
    · exact hts _ (by decide +kernel)
    · exact hts _ (by decide +kernel)
    · exact hts _ (by decide +kernel)
    · exact hts _ (by decide +kernel)
    · exact hts _ (by decide +kernel)
    · exact hts _ (by decide +kernel)
    · exact hts _ (by decide +kernel)
  · simp only [e1 i hi, e2 i hi]
    exact hS.1 i hi
  · rw [← e1 i hi, ← e1 j hj]
    exact h
  · rw [e3]
    rcases hf with rfl | rfl
    · exact Or.inl hZ
    · exact Or.inr hZ
theorem lw_KC (hb : ∀ w ∈ hv_all, w.before #[Value.ref b] s = true) : ∃ D : va_G, ∀ (c : Nat) (q : vw_C), vwCl[c]? = some q → u_Kn s q.1 q.2.1 q.2.2 (D.1 c) (D.2 c) := by
  have h : ∀ c : Nat, ∃ z : ClassId × (Nat → Nat), ∀ q : vw_C, vwCl[c]? = some q → u_Kn s q.1 q.2.1 q.2.2 z.1 z.2 := by
    intro c
    by_cases hc : c < 11
    · rcases (show c = 0 ∨ c = 1 ∨ c = 2 ∨ c = 3 ∨ c = 4 ∨ c = 5 ∨ c = 6 ∨ c = 7 ∨ c = 8 ∨ c = 9 ∨ c = 10 by omega) with rfl | rfl | rfl | rfl | rfl | rfl | rfl | rfl | rfl | rfl | rfl
      · obtain ⟨c0, i0, h⟩ := u_known (C := RX0) (T := TX0) (N := 5) (n := 5) hb hv_usX0 (hb _ (hv_in2 53 (by decide +kernel) rfl))
        exact ⟨(c0, i0), fun q hq => by cases hq; exact h⟩
      · obtain ⟨c0, i0, h⟩ := u_known (C := RX1) (T := TX1) (N := 6) (n := 6) hb hv_usX1 (hb _ (hv_in1 87 (by decide +kernel) rfl))
        exact ⟨(c0, i0), fun q hq => by cases hq; exact h⟩
      · obtain ⟨c0, i0, h⟩ := u_known (C := RX2) (T := TX2) (N := 9) (n := 9) hb hv_usX2 (hb _ (hv_in1 29 (by decide +kernel) rfl))
        exact ⟨(c0, i0), fun q hq => by cases hq; exact h⟩
      · obtain ⟨c0, i0, h⟩ := u_known (C := RX3) (T := TX3) (N := 5) (n := 5) hb hv_usX3 (hb _ (hv_in1 152 (by decide +kernel) rfl))
        exact ⟨(c0, i0), fun q hq => by cases hq; exact h⟩
      · obtain ⟨c0, i0, h⟩ := u_known (C := RX4) (T := TX4) (N := 6) (n := 6) hb hv_usX4 (hb _ (hv_in1 93 (by decide +kernel) rfl))
        exact ⟨(c0, i0), fun q hq => by cases hq; exact h⟩
      · obtain ⟨c0, i0, h⟩ := u_known (C := RX5) (T := TX5) (N := 11) (n := 11) hb hv_usX5 (hb _ (hv_in1 180 (by decide +kernel) rfl))
        exact ⟨(c0, i0), fun q hq => by cases hq; exact h⟩
      · obtain ⟨c0, i0, h⟩ := u_known (C := RX6) (T := TX6) (N := 10) (n := 10) hb hv_usX6 (hb _ (hv_in1 227 (by decide +kernel) rfl))
        exact ⟨(c0, i0), fun q hq => by cases hq; exact h⟩
      · obtain ⟨c0, i0, h⟩ := u_known (C := RX7) (T := TX7) (N := 3) (n := 3) hb hv_usX7 (hb _ (hv_in2 77 (by decide +kernel) rfl))
        exact ⟨(c0, i0), fun q hq => by cases hq; exact h⟩
      · obtain ⟨c0, i0, h⟩ := u_known (C := RX8) (T := TX8) (N := 5) (n := 5) hb hv_usX8 (hb _ (hv_in2 31 (by decide +kernel) rfl))
        exact ⟨(c0, i0), fun q hq => by cases hq; exact h⟩
      · obtain ⟨c0, i0, h⟩ := u_known (C := RX9) (T := TX9) (N := 8) (n := 8) hb hv_usX9 (hb _ (hv_in1 21 (by decide +kernel) rfl))
        exact ⟨(c0, i0), fun q hq => by cases hq; exact h⟩
      · obtain ⟨c0, i0, h⟩ := u_known (C := RX10) (T := TX10) (N := 52) (n := 52) hb hv_usX10 (hb _ (hv_in4 205 (by decide +kernel) rfl))
        exact ⟨(c0, i0), fun q hq => by cases hq; exact h⟩
    · exact ⟨(0, fun _ => 0), fun q hq => absurd (List.getElem?_eq_some_iff.mp hq).1 hc⟩
  exact ⟨(fun c => (Classical.choose (h c)).1, fun c => (Classical.choose (h c)).2), fun c q hq => Classical.choose_spec (h c) q hq⟩
theorem lw_TY (hts : ∀ w ∈ lw_tbl, w.before #[Value.ref b] s = true) : ∃ T : Nat → ClassId, ∀ (k : Nat) (q : ClassId × FieldType), ([(T 0, .int), (T 1, .long), (T 2, .boolean), (T 3, .array .long)] : List (ClassId × FieldType))[k]? = some q → ArrOfT s q.1 q.2 ∧ va_RA s q.1 q.2 := by
  have hb : ∀ w ∈ hv_all, w.before #[Value.ref b] s = true := fun w hw => hts w (Y_tbl w hw)
  obtain ⟨c0, k0, p0, g0, h0, z0⟩ := Cond.arrayClass_spec (type := .int) (hb _ (hv_in1 85 (by decide +kernel) rfl))
  obtain ⟨c1, k1, p1, g1, h1, z1⟩ := Cond.arrayClass_spec (type := .long) (hb _ (hv_in2 29 (by decide +kernel) rfl))
  obtain ⟨c2, k2, p2, g2, h2, z2⟩ := Cond.arrayClass_spec (type := .boolean) (hb _ (hv_in5 127 (by decide +kernel) rfl))
  obtain ⟨p3, c3, k3, -, h3, z3, g3⟩ := mn_over (hts (.arrayOver (.array .long)) (by decide +kernel))
  refine ⟨fun k => if k = 0 then c0 else if k = 1 then c1 else if k = 2 then c2 else c3, fun k q hq => ?_⟩
  have hk : k < 4 := (List.getElem?_eq_some_iff.mp hq).1
  rcases (show k = 0 ∨ k = 1 ∨ k = 2 ∨ k = 3 by omega) with rfl | rfl | rfl | rfl
  · cases hq; exact ⟨fun n z => ⟨fun k h => (by cases h), k0, h0, p0, z0⟩, g0⟩
  · cases hq; exact ⟨fun n z => ⟨fun k h => (by cases h), k1, h1, p1, z1⟩, g1⟩
  · cases hq; exact ⟨fun n z => ⟨fun k h => (by cases h), k2, h2, p2, z2⟩, g2⟩
  · cases hq; exact ⟨fun n z => ⟨fun k h => (by cases h), k3, h3, p3, z3⟩, g3⟩
theorem lw_NS (hts : ∀ w ∈ lw_tbl, w.before #[Value.ref b] s = true) : ∀ w ∈ hv_nst, va_Nw w s := by
  intro w hw
  obtain ⟨h1, h2⟩ := List.mem_filter.mp hw
  have h3 := hts w (List.mem_append_right _ h1)
  cases w <;> first | exact Bool.noConfusion h2 | exact h3
end LS
section LG
variable {l : Launch} {e : hv_Ev} {b L : Nat} {xs : Nat → Int32} {cells slots pc : Nat} {lo : List (Nat × Value)} {st : List Value} {Q : State → Prop}
/-- a constructor, called by the law -/
theorem lw_ctor {idx d mc ms q ci : Nat} {M' : hv_M} {fs : List Value} {post : (Nat → Nat) → va_W} {wr : va_W} (hd : decode code pc = .ok (.invokespecial idx, 3)) (mw : hv_MW M' 0) (hret : M'.2.2.2 = none) (hnm : M'.1.name = "<init>") (hi : Cond.instanceMethod M'.1 ∈ hv_all) (w7 : Cond.methodLink RL idx M'.1 ∈ hv_all)
    (hc : hv_CN l e d mc ms M' q [] ci fs post) (hst : (st.map fun v => v.category).sum ≤ 8) (ok : d + 1 ≤ 2048 ∧ 8 + (M'.2.2.1 + 11) + 40 * d ≤ 84000 ∧ cells + mc ≤ 600000 ∧ slots + ms ≤ 7302249) (hnd : va_nd (List.range wr.length) = true)
    {p : Program} {ee : Env} {s : State} {m : MethodId} {below : List Frame} {meth : Method} {c : Code} {H : Heap} {locs : List Loc} {ls : Array Slot} (h0 : lw_At p s m meth c b L xs) (hK : hv_KN e s s.heap) (hA : ∀ q, s.heap.size ≤ q → e.2.2.2 q) (hP : va_P e.2.1 vwCl (wr ++ [(q, .inr (ci, fs))]) H) (hD : va_D e.2.2.2 (wr ++ [(q, .inr (ci, fs))])) (hS : va_S e.2.2.2 s.heap H locs) (hl : lv_has ls 4 lo)
    (k : ∀ (qs : Nat → Nat) (H1 : Heap) (locs1 : List Loc), va_P e.2.1 vwCl (wr ++ post qs) H1 → va_D e.2.2.2 (wr ++ post qs) → va_S e.2.2.2 s.heap H1 locs1 → W p l ee room_1 s m #[Value.ref b] below meth c H1 locs1 (cells + mc) (slots + ms) Q (F0 m (pc + 3) ls st)) :
    W p l ee room_1 s m #[Value.ref b] below meth c H locs cells slots Q (F0 m pc ls (.ref q :: st)) := by
  obtain ⟨w1, w2, w3⟩ := mw
  rw [hret] at w1
  have hb : ∀ w ∈ hv_all, w.before #[Value.ref b] s = true := fun w hw => h0.2.2.2.2.2.1 w (Y_tbl w hw)
  have hat : (wr ++ [(q, .inr (ci, fs))])[wr.length]? = some (q, .inr (ci, fs)) := by rw [List.getElem?_append_right (Nat.le_refl _), Nat.sub_self]; rfl
  have hC : [wr.length].map (fun i => (wr ++ [(q, (.inr (ci, fs) : va_E))])[i]?) = [(q, (.inr (ci, fs) : va_E))].map some := by
    show [(wr ++ [(q, (.inr (ci, fs) : va_E))])[wr.length]?] = [some (q, .inr (ci, fs))]
    rw [hat]
  have hF := va_free (wc := [(q, .inr (ci, fs))]) hD hS hA [wr.length] hC
  have hPc : va_P e.2.1 vwCl [(q, .inr (ci, fs))] H := fun k x hx => by
    have z1 : k < 1 := (List.getElem?_eq_some_iff.mp hx).1
    rw [show k = 0 by omega] at hx
    cases hx
    exact hP _ _ hat
  have hcz := hc H.size
  have hpre : PreS s H (va_Pc (.ref q :: []) (fun U => U.heap.size = H.size ∧ va_P e.2.1 vwCl [(q, .inr (ci, fs))] U.heap ∧ hv_KN (e.1, e.2.1, e.2.2.1, va_A [(q, .inr (ci, fs))] H.size) U U.heap)) (.ref q :: []) :=
    ⟨fun a U g mk z => ⟨z.1, z.2.1, z.2.2.1, hv_K.same (s := U) (U := U.calling g mk a) z.2.2.2.1 rfl, over_moved (Vm.Alike.refl U.vm) z.2.2.2.2⟩, fun U hU hW => ⟨rfl, by rw [hU], by rw [hU]; exact hPc, (hK.moved hW (H1 := U.heap) (by rw [hU]; exact hS.2.1)).narrow hF⟩⟩
  have hgo : va_Run p l ee room_1 s m #[Value.ref b] below meth c H locs cells slots mc ms (F0 m pc ls (.ref q :: st)) st (va_Qv (fun _ : Nat → Nat => True) (fun qs U => va_P e.2.1 vwCl (post qs) U.heap ∧ va_D (va_A [(q, .inr (ci, fs))] H.size) (post qs)) (va_A [(q, .inr (ci, fs))] H.size) (Value.ref q :: []).toArray) (va_A [(q, .inr (ci, fs))] H.size) := by
    have hgi : GoodIn hv_all (hv_w M') := Y_good (by rw [hret]; exact w1)
    exact va_runI (As := []) (rest := st) (Ts := hv_all) (own := RL) ⟨h0.1, h0.2.1, h0.2.2.2.1, h0.2.2.2.2.1, hb⟩ hcz (cwI 0 hb hgi (by rw [hv_w, hret]) rfl rfl (hb _ w3) (hb _ w7) (hb _ hi) hnm w2 ⟨ok.1, ok.2.1⟩) hpre rfl rfl hl.1 rfl (lv_room hst) hd ⟨ok.2.2.1, ok.2.2.2⟩
  refine va_callv hgo hS (fun x _ hx => hF x hx) hF (fun qs t H1 locs1 ht hvm _ hB hz hk hS1 => ?_)
  obtain ⟨hP1, hD1⟩ := hB
  rw [ht] at hP1
  obtain ⟨hP2, hD2⟩ := va_join (wr := wr) (w1 := post qs) hP hD [wr.length] (List.range wr.length) hC (rng_map wr _) hnd (fun i hi => by
    have := List.mem_range.mp hi
    intro z
    have := List.mem_singleton.mp z
    omega) hk hF hP1 hD1
  exact k qs H1 locs1 hP2 hD2 hS1
end LG
theorem lw_A1 {E : hv_E} {σ : hv_S} {A : Nat → Prop} {W : va_W} {is : List Nat} (hD : va_D A W) (hn : va_nd is = true) (h : is.map (fun i => W[i]?) = (hv_ws E σ).map some) {k : Nat} (hk : k ∈ hv_pl E) : A (hv_al E k) := by
  obtain ⟨q0, hq⟩ := List.getElem?_of_mem (List.mem_map.mpr ⟨k, hk, rfl⟩ : hv_at E σ k ∈ hv_ws E σ)
  exact (hD.sub is hn h).2 q0 _ hq
set_option maxHeartbeats 4000000 in
set_option maxRecDepth 100000 in
/-- THE LAW, from its entry -/
theorem whole_start {p : Program} {e : Env} {s : State} {m : MethodId} {below : List Frame} {meth : Method} {c : Code} (l : Launch) (hflags : l.flags = flags0) {b L : Nat} {xs : Nat → Int32} (hL : L ≤ 384) (C0 : lw_At p s m meth c b L xs) : W p l e room_1 s m #[Value.ref b] below meth c s.heap [] 0 0 (lw_Z below #[Value.ref b] s) (entryFrame m ([Value.ref b] : List Value).toArray 4) := by
  obtain ⟨hx, hb, hr, hml, hown, hts, hX, hbl, hlocks, hgv⟩ := id C0
  have hba : ∀ w ∈ hv_all, w.before #[Value.ref b] s = true := fun w hw => hts w (Y_tbl w hw)
  have hA : ∀ q : Nat, s.heap.size ≤ q → (fun q : Nat => s.heap.size ≤ q) q := fun _ h => h
  obtain ⟨o, O1, O2, O3, O4⟩ := lw_Ost (A := fun q : Nat => s.heap.size ≤ q) hts hgv (fun a ha z => absurd z (Nat.not_le.mpr ha))
  obtain ⟨D, hKC⟩ := lw_KC hba
  obtain ⟨T, hTY⟩ := lw_TY hts
  have hKN : hv_KN (o, D, T, fun q : Nat => s.heap.size ≤ q) s s.heap := ⟨⟨⟨hKC, hTY⟩, lw_NS hts, O1, O2, O3, O4⟩, over_moved (a := #[Value.ref b]) (Vm.Alike.refl s.vm) (hts _ (by decide +kernel))⟩
  have hS : va_S (fun q : Nat => s.heap.size ≤ q) s.heap s.heap [] := va_S.rf
  have hP : va_P D vwCl [] s.heap := fun k q h => by simp at h
  have hD : va_D (fun q : Nat => s.heap.size ≤ q) [] := ⟨fun i j p q h => by simp at h, fun k q h => by simp at h⟩
  have hl := lv_entry ([.ref b]) (n := 4) (Nat.le_of_ble_eq_true rfl)
  rw [lg_entry_eq]
  generalize (lg_sl ([.ref b]) ++ List.replicate (4 - (lg_sl ([.ref b])).length) Slot.unset).toArray = ls at hl ⊢
  have hl : lv_has ls 4 [(0, .ref b)] := hl
  refine va_new (ci := 9) (fs := [.null, .null, .null, .null, .null, .null, .null, .null]) (C := RX9) (T := TX9) (N := 8) hx hb hba hv_usX9 tyX9 tyX9_ok hown (hba _ (hv_in1 20 (by decide +kernel) rfl)) (hba _ (hv_in1 21 (by decide +kernel) rfl)) (hba _ (hv_in1 1 (by decide +kernel) rfl)) hKN.1.1 hP hD hS hA rfl (fun j hj => by rcases (show j = 0 ∨ j = 1 ∨ j = 2 ∨ j = 3 ∨ j = 4 ∨ j = 5 ∨ j = 6 ∨ j = 7 by omega) with rfl | rfl | rfl | rfl | rfl | rfl | rfl | rfl <;> rfl) (Nat.le_of_ble_eq_true rfl) (Nat.le_of_ble_eq_true rfl) dL_law_0 (fun q1 H hP hD hS => ?_)
  refine lv_dup hx hb dL_law_3 rfl ?_
  refine lw_ctor (wr := []) dL_law_4 mw_X9_init rfl rfl (hv_in1 23 (by decide +kernel) rfl) (hv_in1 22 (by decide +kernel) rfl) (c_X9_init l (o, D, T, fun q : Nat => s.heap.size ≤ q) q1) (Nat.le_of_ble_eq_true rfl) ⟨Nat.le_of_ble_eq_true rfl, Nat.le_of_ble_eq_true rfl, Nat.le_of_ble_eq_true rfl, Nat.le_of_ble_eq_true rfl⟩ rfl C0 hKN hA hP hD hS hl (fun qs1 H locs hP hD hS => ?_)
  refine lv_astore_n (lv' := [(1, .ref q1), (0, .ref b)]) hx hb dL_law_7 rfl hl (by decide) rfl (fun ls hl => ?_)
  refine va_new (ci := 10) (fs := [.int 0, .int 0, .null, .null, .null, .null, .null, .null, .null, .int 0, .int 0, .null, .null, .null, .int 0, .int 0, .int 0, .int 0, .int 0, .int 0, .int 0, .int 0, .int 0, .null, .int 0, .null, .null, .int 0, .int 0, .int 0, .int 0, .int 0, .int 0, .int 0, .null, .int 0, .int 0, .int 0, .null, .null, .long 0, .int 0, .long 0, .long 0, .null, .null, .int 0, .null, .null, .null, .null, .null]) (C := RX10) (T := TX10) (N := 52) hx hb hba hv_usX10 tyX10 tyX10_ok hown (hba _ (hv_in4 204 (by decide +kernel) rfl)) (hba _ (hv_in4 205 (by decide +kernel) rfl)) (hba _ (hv_in1 12 (by decide +kernel) rfl)) hKN.1.1 hP hD hS hA rfl (fun j hj => by rcases (show j = 0 ∨ j = 1 ∨ j = 2 ∨ j = 3 ∨ j = 4 ∨ j = 5 ∨ j = 6 ∨ j = 7 ∨ j = 8 ∨ j = 9 ∨ j = 10 ∨ j = 11 ∨ j = 12 ∨ j = 13 ∨ j = 14 ∨ j = 15 ∨ j = 16 ∨ j = 17 ∨ j = 18 ∨ j = 19 ∨ j = 20 ∨ j = 21 ∨ j = 22 ∨ j = 23 ∨ j = 24 ∨ j = 25 ∨ j = 26 ∨ j = 27 ∨ j = 28 ∨ j = 29 ∨ j = 30 ∨ j = 31 ∨ j = 32 ∨ j = 33 ∨ j = 34 ∨ j = 35 ∨ j = 36 ∨ j = 37 ∨ j = 38 ∨ j = 39 ∨ j = 40 ∨ j = 41 ∨ j = 42 ∨ j = 43 ∨ j = 44 ∨ j = 45 ∨ j = 46 ∨ j = 47 ∨ j = 48 ∨ j = 49 ∨ j = 50 ∨ j = 51 by omega) with rfl | rfl | rfl | rfl | rfl | rfl | rfl | rfl | rfl | rfl | rfl | rfl | rfl | rfl | rfl | rfl | rfl | rfl | rfl | rfl | rfl | rfl | rfl | rfl | rfl | rfl | rfl | rfl | rfl | rfl | rfl | rfl | rfl | rfl | rfl | rfl | rfl | rfl | rfl | rfl | rfl | rfl | rfl | rfl | rfl | rfl | rfl | rfl | rfl | rfl | rfl | rfl <;> rfl) (Nat.le_of_ble_eq_true rfl) (Nat.le_of_ble_eq_true rfl) dL_law_8 (fun q2 H hP hD hS => ?_)
  refine lv_dup hx hb dL_law_11 rfl ?_
  refine lw_ctor dL_law_12 mw_X10_init rfl rfl (hv_in4 207 (by decide +kernel) rfl) (hv_in4 206 (by decide +kernel) rfl) (c_X10_init l (o, D, T, fun q : Nat => s.heap.size ≤ q) q2) (Nat.le_of_ble_eq_true rfl) ⟨Nat.le_of_ble_eq_true rfl, Nat.le_of_ble_eq_true rfl, Nat.le_of_ble_eq_true rfl, Nat.le_of_ble_eq_true rfl⟩ rfl C0 hKN hA hP hD hS hl (fun qs2 H locs hP hD hS => ?_)
  refine lv_astore_n (lv' := [(2, .ref q2), (1, .ref q1), (0, .ref b)]) hx hb dL_law_15 rfl hl (by decide) rfl (fun ls hl => ?_)
  refine lv_iconst (v := 0) hx hb dL_law_16 (by decide) ?_
  refine lv_istore_n (lv' := [(3, .int 0), (2, .ref q2), (1, .ref q1), (0, .ref b)]) hx hb dL_law_17 rfl hl (by decide) rfl (fun ls hl => ?_)
  have z1 := lw_h1 T D (lw_Ad (lw_al (lw_a1 q1 qs1) (lw_a2 q2 qs2) o) hv_pl1) q1 q2 qs1 qs2 (lw_a2 q2 qs2) o _ (lw_row q1 qs1 (lw_a2 q2 qs2) o)
  have z2 := lw_h2 T D (lw_Ad (lw_al (lw_a1 q1 qs1) (lw_a2 q2 qs2) o) hv_pl2) q1 q2 qs1 qs2 (lw_a1 q1 qs1) o (fun i => if i < 8 then some (qs1 22 + 1 + i) else none)
  have hD' : va_D (fun q : Nat => s.heap.size ≤ q) (lw_w1 T q1 qs1 (fun i => if i < 8 then some (qs1 22 + 1 + i) else none) ++ lw_w2 T q2 qs2) := hD
  have hP' : va_P D vwCl (lw_w1 T q1 qs1 (fun i => if i < 8 then some (qs1 22 + 1 + i) else none) ++ lw_w2 T q2 qs2) H := hP
  refine Y_loop (e := (lw_al (lw_a1 q1 qs1) (lw_a2 q2 qs2) o, D, T, fun q : Nat => s.heap.size ≤ q)) (A1 := lw_Ad (lw_al (lw_a1 q1 qs1) (lw_a2 q2 qs2) o) hv_pl1) (A2 := lw_Ad (lw_al (lw_a1 q1 qs1) (lw_a2 q2 qs2) o) hv_pl2) hL ⟨Nat.le_of_ble_eq_true rfl, Nat.le_of_ble_eq_true rfl⟩ 64 0 lw_D lw_hb lw_It lw_s1 lw_s2 rfl lw_RX lw_RM lw_WF (Nat.le_of_ble_eq_true rfl) p e s m below meth c H locs ls C0 (hKN.1.narrow rfl rfl (fun k hk => lw_al_o hk) (fun _ h => h)) (fun _ => Iff.rfl) ?_ ?_ ?_ (lw_P1 hP' hD' rfl z1 (fun k hk => ⟨k, hk, rfl⟩)) (lw_P1 hP' hD' rfl z2 (fun k hk => ⟨k, hk, rfl⟩)) hS hl
  · rintro x ⟨k, hk, rfl⟩
    exact lw_A1 hD' rfl z1 hk
  · rintro x ⟨k, hk, rfl⟩
    exact lw_A1 hD' rfl z2 hk
  · rintro x ⟨k, hk, rfl⟩ ⟨k', hk', h⟩
    exact lw_dis hD' z1 z2 (by decide +kernel) _ (List.mem_map.mpr ⟨k, hk, rfl⟩) _ (List.mem_map.mpr ⟨k', hk', rfl⟩) h.symm
