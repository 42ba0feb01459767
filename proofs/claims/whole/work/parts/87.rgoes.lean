-- THE REFERENCE: CLAUSES, A WHOLE TEXT
theorem clB {T : Nat → Nat} {n p : Nat} {s : hHs} (hp : p ≤ n) : kCL (fun _ => True) (fun a => a.1 ≤ n) (clP T n p s) := by
  unfold clP
  have w0 := wd_ok (T := T) (n := n) (wrd 0) p (wrd_256 0 (by decide)) hp
  have w1 := wd_ok (T := T) (n := n) (wrd 1) p (wrd_256 1 (by decide)) hp
  have w2 := wd_ok (T := T) (n := n) (wrd 2) p (wrd_256 2 (by decide)) hp
  have w3 := wd_ok (T := T) (n := n) (wrd 3) p (wrd_256 3 (by decide)) hp
  split
  · split
    · unfold barS
      have hok := ei_ok (T := T) (n := n) (h := 1 + 2 * 4) (by decide) (fun p hp => sg_ok (T := T) (n := n) 4 p hp) (wdS T n (wrd 0) p).2 w0.2
      cases hres : eiP T n (sgP T n 4) (wdS T n (wrd 0) p).2 with
      | inl q => exact trivial
      | inr a => rw [hres] at hok; exact hok.2.1
    · exact trivial
  · split
    · split
      · have f := fgP_ok (T := T) (n := n) (p := (wdS T n (wrd 1) p).2) w1.2
        split
        · exact trivial
        · exact f.2.2.1
      · exact trivial
    · split
      · split
        · unfold needS ndS
          have f := fgP_ok (T := T) (n := n) (p := (wdS T n (wrd 2) p).2) w2.2
          generalize fgP T n (wdS T n (wrd 2) p).2 = a at *
          by_cases d1 : a.2.2 = 0
          · rw [if_pos d1]; exact trivial
          · rw [if_neg d1]
            by_cases d2 : seeN T n a.1 = 32
            · rw [if_neg (fun z => z d2)]
              have f2 := fgP_ok (T := T) (n := n) (p := a.1 + 1) (see_lt d2 (by decide))
              generalize fgP T n (a.1 + 1) = bb at *
              by_cases d3 : bb.2.2 = 0
              · rw [if_pos d3]; exact trivial
              · rw [if_neg d3]
                by_cases d4 : bb.2.1 = 0
                · rw [if_pos d4]; exact trivial
                · rw [if_neg d4]; exact f2.2.2.1
            · rw [if_pos d2]; exact trivial
        · exact trivial
      · split
        · split
          · split
            · next d => exact see_lt d (by decide)
            · split
              · next d => exact see_lt d (by decide)
              · exact trivial
          · exact trivial
        · exact trivial
section GO
variable {l : Launch} {e : hv_Ev} {σ0 : hv_S} {T : Nat → Nat} {n bs : Nat} {F : Nat → Nat}
theorem y_takesE {Φ : Int32 → hv_S → Prop} {p : Nat} {σ : hv_S} (h0 : rq0 T n bs F σ0) (hE : RE σ0 σ) (h16 : σ.1 60 16 = nI p) (hpn : p ≤ n)
    (kk : kPQ (fai σ0 Φ) (fun a => ∀ σ', rqI σ0 a.1 [] [a.2.2 F] 0 σ' → Φ 1 σ') (eiP T n (sgP T n 4) p)) : hv_CI l (hv_e2 e) 4 m_X10_takesE [.ref 60] σ Φ := by
  refine B_X10_takesE (y_ei (r := 4) (o := 0) (B := []) (P := []) (p := p) h0 (y_sg h0 4 (by decide)) (fun B1 x hx => by simp at hx) rfl (Nat.zero_le p) (Nat.zero_le p) hpn ?_ ?_)
  · refine ⟨hE.trans ((RE.u60 (by decide)).trans ((RE.u60 (by decide)).trans (RE.u60 (by decide)))), by simp only [ui_1]; exact h16, ?_, fun j hj => absurd hj (Nat.not_lt_zero j), ?_, fun j hj => absurd hj (Nat.not_lt_zero j), ?_⟩
    · simp only [ui_1]; rfl
    · simp only [ui_1]; rfl
    · simp only [ui_1]; rfl
  · refine kPQ_mono kk (fun q hq => hq) (fun a _ ha σ' _ h' => ?_)
    unfold GGt
    rw [h'.2.2.1]
    exact ⟨fun q => absurd rfl q, fun _ => ha σ' h'⟩
/-- the numbers told, while a text is read -/
def gnI (σ0 : hv_S) (p : Nat) (N : hQ) (v : Bool) (σ : hv_S) : Prop := σ.2 = σ0.2 ∧ (∀ k, k ≠ 60 → k ≠ 72 → k ≠ 73 → ∀ j, σ.1 k j = σ0.1 k j) ∧ (∀ j, (j < 14 ∨ 18 < j ∧ j < 27 ∨ 33 < j) → σ.1 60 j = σ0.1 60 j) ∧ σ.1 60 16 = nI p ∧
  σ.1 60 30 = nI N.1 ∧ σ.1 60 31 = nI N.2.1 ∧ σ.1 60 32 = nI N.2.2.1 ∧ σ.1 60 33 = (if N.2.2.2 = 0 then 108 else 98) ∧ σ.1 60 18 = bI v
/-- where it reads -/
def gt0 (T : Nat → Nat) (n bs : Nat) (F : Nat → Nat) (σ : hv_S) : Prop := n ≤ 100 ∧ bs ≤ 100 ∧ (∀ k, k < n → σ.1 68 (bs + k) = sxI (T k) ∧ T k < 256) ∧ ∀ j, j < 5 → σ.1 70 j = nI (F j) ∧ F j < 1000
def gaI (σ0 : hv_S) (q : Nat) (σ : hv_S) : Prop := σ.2 = σ0.2 ∧ (∀ k, k ≠ 60 → k ≠ 72 → k ≠ 73 → ∀ j, σ.1 k j = σ0.1 k j) ∧ (∀ j, (j < 14 ∨ 18 < j ∧ j < 27 ∨ 33 < j) → σ.1 60 j = σ0.1 60 j) ∧ σ.1 60 16 = nI q
theorem gnI.g {σ : hv_S} {p : Nat} {N : hQ} {v : Bool} (h : gnI σ0 p N v σ) : gaI σ0 p σ := ⟨h.1, h.2.1, h.2.2.1, h.2.2.2.1⟩
theorem RE.ga {σ σ' : hv_S} {p q : Nat} {N : hQ} {v : Bool} (h : gnI σ0 p N v σ) (e : RE σ σ') (hq : σ'.1 60 16 = nI q) : gaI σ0 q σ' :=
  ⟨e.1.trans h.1, fun k a b c j => (e.2.1 k a b c j).trans (h.2.1 k a b c j), fun j hj => (e.2.2 j (by omega)).trans (h.2.2.1 j hj), hq⟩
theorem RE.gn {σ σ' : hv_S} {p q : Nat} {N : hQ} {v : Bool} (h : gnI σ0 p N v σ) (e : RE σ σ') (hq : σ'.1 60 16 = nI q) : gnI σ0 q N v σ' := by
  obtain ⟨h1, h2, h3, h4, h5, h6, h7, h8, h9⟩ := h
  exact ⟨e.1.trans h1, fun k a b c j => (e.2.1 k a b c j).trans (h2 k a b c j), fun j hj => (e.2.2 j (by omega)).trans (h3 j hj), hq, (e.2.2 30 (by decide)).trans h5, (e.2.2 31 (by decide)).trans h6, (e.2.2 32 (by decide)).trans h7, (e.2.2 33 (by decide)).trans h8, (e.2.2 18 (by decide)).trans h9⟩
theorem gn_rq {σ : hv_S} {p : Nat} {N : hQ} {v : Bool} (h0 : gt0 T n bs F σ0) (h : gnI σ0 p N v σ) (hb : σ.1 60 14 = nI bs) (hm : σ.1 60 15 = nI n) : rq0 T n bs F σ :=
  ⟨h0.1, h0.2.1, fun k hk => by rw [h.2.1 68 (by decide) (by decide) (by decide)]; exact h0.2.2.1 k hk, hb, hm, fun j hj => by rw [h.2.1 70 (by decide) (by decide) (by decide)]; exact h0.2.2.2 j hj⟩
/-- one of the numbers is told -/
theorem gnI.set {σ : hv_S} {p j v : Nat} {N : hQ} {b : Bool} {w : Int32} (h : gnI σ0 p N b σ) (hj : j = 2 ∨ j = 3 ∨ j = 4 ∨ j = 5) (hw : w = if j = 5 then (if v = 0 then 108 else 98) else nI v) : gnI σ0 p (updN N j v) b (hv_ui σ 60 (28 + j) w) := by
  obtain ⟨h1, h2, h3, h4, h5, h6, h7, h8, h9⟩ := h
  subst hw
  refine ⟨h1, fun k a b c i => by rw [ui_1, if_neg (fun z => a z.1)]; exact h2 k a b c i, fun i hi => by rw [ui_1, if_neg (fun z => by omega)]; exact h3 i hi, by rw [ui_1, if_neg (fun z => by omega)]; exact h4, ?_⟩
  rcases hj with rfl | rfl | rfl | rfl
  · exact ⟨rfl, h6, h7, h8, h9⟩
  · exact ⟨h5, rfl, h7, h8, h9⟩
  · exact ⟨h5, h6, rfl, h8, h9⟩
  · exact ⟨h5, h6, h7, rfl, h9⟩
/-- 14, 15 stay -/
def gbI (σ σ' : hv_S) : Prop := σ'.1 60 14 = σ.1 60 14 ∧ σ'.1 60 15 = σ.1 60 15
theorem RE.gb {σ σ' : hv_S} (e : RE σ σ') : gbI σ σ' := ⟨e.2.2 14 (by decide), e.2.2 15 (by decide)⟩
abbrev gfa (σ0 : hv_S) (Φ : Int32 → hv_S → Prop) (q : Nat) : Prop := ∀ σ', gaI σ0 q σ' → Φ 0 σ'
theorem y_wordK {Φ : Int32 → hv_S → Prop} {w len p : Nat} {code : Int32} {σ : hv_S} {N : hQ} {v : Bool} (h0 : gt0 T n bs F σ0) (h : gnI σ0 p N v σ) (hb : σ.1 60 14 = nI bs) (hm : σ.1 60 15 = nI n) (hpn : p ≤ n) (hw7 : w < 7) (hlen : (wrd w).length = len + 1) (h5 : len ≤ 4) (h32 : (wrd w).getD len 0 = 32) (hc : ∀ i, i < len → 96 + ((code >>> ((5 * (nI (len - i) - 1)) &&& 31)) &&& 31) = nI ((wrd w).getD i 0) ∧ (wrd w).getD i 0 < 128)
    (k0 : (wdS T n (wrd w) p).1 = false → gfa σ0 Φ (wdS T n (wrd w) p).2) (k1 : (wdS T n (wrd w) p).1 = true → (wdS T n (wrd w) p).2 ≤ n → ∀ σ', gnI σ0 (wdS T n (wrd w) p).2 N v σ' → σ'.1 60 14 = nI bs → σ'.1 60 15 = nI n → Φ 1 σ') : hv_CI l (hv_e2 e) 2 m_X10_takesWord [.ref 60, .int code, .int (nI len)] σ Φ := by
  have hrd := rq_rd (gn_rq h0 h hb hm) (RE.refl σ) h.2.2.2.1 hpn
  have hwd := wd_ok (T := T) (n := n) (wrd w) p (wrd_256 w hw7) hpn
  refine y_takesWord hlen h5 h32 hc hrd (fun σ' hE h' => ?_)
  cases c : (wdS T n (wrd w) p).1 with
  | false => exact k0 c σ' (hE.re.ga h h'.2.2.2.2.2.1)
  | true => exact k1 c hwd.2 σ' (hE.re.gn h h'.2.2.2.2.2.1) h'.2.2.2.1 h'.2.2.2.2.1
theorem num_f (s : Nat × Nat × Nat) : numR T n false s = if s.2.2 = 0 then (none, s.1) else (some s.2.1, s.1) := by
  unfold numR
  by_cases c : s.2.2 = 0
  · rw [if_pos c, if_pos c]
  · rw [if_neg c, if_neg c, if_neg (fun z => absurd z.1 (by decide))]
theorem y_numK {Φ : Int32 → hv_S → Prop} {p : Nat} {σ : hv_S} {N : hQ} {v : Bool} (h0 : gt0 T n bs F σ0) (h : gnI σ0 p N v σ) (hb : σ.1 60 14 = nI bs) (hm : σ.1 60 15 = nI n) (hpn : p ≤ n)
    (k0 : (fgP T n p).2.2 = 0 → gfa σ0 Φ (fgP T n p).1) (k1 : (fgP T n p).2.2 ≠ 0 → (fgP T n p).1 ≤ n → ∀ σ', gnI σ0 (fgP T n p).1 N v σ' → σ'.1 60 14 = nI bs → σ'.1 60 15 = nI n → σ'.1 60 17 = nI (fgP T n p).2.1 → Φ 1 σ') : hv_CI l (hv_e2 e) 2 m_X10_takesNumber [.ref 60, .int 0] σ Φ := by
  have hrd := rq_rd (gn_rq h0 h hb hm) (RE.refl σ) h.2.2.2.1 hpn
  have ok := fgP_ok (T := T) (n := n) hpn
  refine y_takesNumber false hrd (fun q hq σ' hE h' => ?_) (fun u q hq σ' hE h' h17 => ?_)
  · rw [num_f] at hq
    by_cases c : (fgP T n p).2.2 = 0
    · rw [if_pos c] at hq
      have : (fgP T n p).1 = q := congrArg Prod.snd hq
      subst this
      exact k0 c σ' (hE.re.ga h h'.2.2.2.2.2.1)
    · rw [if_neg c] at hq
      exact absurd (congrArg Prod.fst hq) (by intro z; cases z)
  · rw [num_f] at hq
    by_cases c : (fgP T n p).2.2 = 0
    · rw [if_pos c] at hq
      exact absurd (congrArg Prod.fst hq) (by intro z; cases z)
    · rw [if_neg c] at hq
      have e1 : (fgP T n p).1 = q := congrArg Prod.snd hq
      have e2 : (fgP T n p).2.1 = u := Option.some.inj (congrArg Prod.fst hq)
      subst e1
      subst e2
      exact k1 c ok.2.2.1 σ' (hE.re.gn h h'.2.2.2.2.2.1) h'.2.2.2.1 h'.2.2.2.2.1 h17
theorem y_need {Φ : Int32 → hv_S → Prop} {p : Nat} {σ : hv_S} {N : hQ} {v : Bool} (h0 : gt0 T n bs F σ0) (h : gnI σ0 p N v σ) (hb : σ.1 60 14 = nI bs) (hm : σ.1 60 15 = nI n) (hpn : p ≤ n)
    (k : if (wdS T n (wrd 2) p).1 = true then (match ndS T n (wdS T n (wrd 2) p).2 with | .inl q => gfa σ0 Φ q | .inr b => ∀ σ', gnI σ0 b.1 (updN (updN N 3 b.2.1) 4 b.2.2) v σ' → σ'.1 60 14 = nI bs → σ'.1 60 15 = nI n → Φ 1 σ') else gfa σ0 Φ (wdS T n (wrd 2) p).2) : hv_CI l (hv_e2 e) 3 m_X10_takesNeed [.ref 60] σ Φ := by
  refine B_X10_takesNeed (y_wordK (w := 2) (len := 4) (code := 464036) h0 h hb hm hpn (by decide) (by decide) (by decide) (by decide) (by decide) (fun z σ1 h1 => ⟨fun _ => ?_, fun q => absurd rfl q⟩) (fun z hq1 σ1 h1 hb1 hm1 => ⟨fun q => absurd q (by decide), fun _ => ?_⟩))
  · rw [if_neg (by rw [z]; decide)] at k; exact k σ1 h1
  · rw [if_pos z] at k
    unfold ndS at k
    generalize (wdS T n (wrd 2) p).2 = p1 at *
    refine y_numK h0 h1 hb1 hm1 hq1 (fun c σ2 h2 => ⟨fun q => absurd rfl q, fun _ => ?_⟩) (fun c hq2 σ2 h2 hb2 hm2 h17 => ⟨fun _ => ?_, fun q => absurd q (by decide)⟩)
    · rw [if_pos c] at k; exact k σ2 h2
    · rw [if_neg c] at k
      have hrd2 := rq_rd (gn_rq h0 h2 hb2 hm2) (RE.refl σ2) h2.2.2.2.1 hq2
      refine y_takes (c := 32) (by decide) hrd2 (fun q => ⟨fun _ => ?_, fun z => absurd rfl z⟩) (fun q σ3 hE3 h3' => ⟨fun z => absurd z (by decide), fun _ => ?_⟩)
      · rw [if_pos q] at k; exact k σ2 h2.g
      · rw [if_neg (fun z => z q)] at k
        have h3 := hE3.re.gn h2 h3'.2.2.2.2.2.1
        have ok := fgP_ok (T := T) (n := n) (p := (fgP T n p1).1 + 1) h3'.2.2.2.2.2.2
        generalize hb' : fgP T n ((fgP T n p1).1 + 1) = b at *
        refine y_takesNumber true h3' (fun q4 hq4 σ4 hE4 h4' => ⟨fun z => absurd rfl z, fun _ => ?_⟩) (fun u q4 hq4 σ4 hE4 h4' h174 => ⟨fun _ => ?_, fun z => absurd z (by decide)⟩)
        · have h4 : gaI σ0 q4 σ4 := hE4.re.ga h3 h4'.2.2.2.2.2.1
          rw [hb'] at hq4
          unfold numR at hq4
          by_cases c1 : b.2.2 = 0
          · rw [if_pos c1] at hq4 k
            have : b.1 = q4 := congrArg Prod.snd hq4
            subst this
            exact k σ4 h4
          · rw [if_neg c1] at hq4 k
            by_cases c2 : b.2.1 = 0
            · rw [if_pos ⟨rfl, c2⟩] at hq4
              rw [if_pos c2] at k
              have : (if b.2.2 = 3 then b.1 - 1 else b.1) = q4 := congrArg Prod.snd hq4
              subst this
              exact k σ4 h4
            · rw [if_neg (fun z => c2 z.2)] at hq4
              exact absurd (congrArg Prod.fst hq4) (by intro z; cases z)
        · have h4 := hE4.re.gn h3 h4'.2.2.2.2.2.1
          rw [hb'] at hq4
          unfold numR at hq4
          by_cases c1 : b.2.2 = 0
          · rw [if_pos c1] at hq4
            exact absurd (congrArg Prod.fst hq4) (by intro z; cases z)
          · rw [if_neg c1] at hq4 k
            by_cases c2 : b.2.1 = 0
            · rw [if_pos ⟨rfl, c2⟩] at hq4
              exact absurd (congrArg Prod.fst hq4) (by intro z; cases z)
            · rw [if_neg (fun z => c2 z.2)] at hq4
              rw [if_neg c2] at k
              have e1 : b.1 = q4 := congrArg Prod.snd hq4
              have e2 : b.2.1 = u := Option.some.inj (congrArg Prod.fst hq4)
              subst e1
              subst e2
              rw [h17, h174]
              exact k _ ((h4.set (j := 3) (v := (fgP T n p1).2.1) (by decide) rfl).set (j := 4) (v := b.2.1) (by decide) rfl) h4'.2.2.2.1 h4'.2.2.2.2.1
/-- what the steps say, and what the bars say -/
theorem y_clause {Φ : Int32 → hv_S → Prop} {p : Nat} {σ : hv_S} {N : hQ} {C : List Int32} {v : hVl} (h0 : gt0 T n bs F σ0) (h : gnI σ0 p N (v F) σ) (hb : σ.1 60 14 = nI bs) (hm : σ.1 60 15 = nI n) (hpn : p ≤ n)
    (k : kCL (gfa σ0 Φ) (fun b => ∀ σ', gnI σ0 b.1 b.2.1 (b.2.2.2 F) σ' → σ'.1 60 14 = nI bs → σ'.1 60 15 = nI n → Φ 1 σ') (clP T n p (N, C, v))) : hv_CI l (hv_e2 e) 5 m_X10_takesClause [.ref 60] σ Φ := by
  have hrd := rq_rd (gn_rq h0 h hb hm) (RE.refl σ) h.2.2.2.1 hpn
  unfold clP at k
  have c98 : seM (seeN T n p) = 98 ↔ seeN T n p = 98 := seM_eq (k := 98) (by decide)
  have c99 : seM (seeN T n p) = 99 ↔ seeN T n p = 99 := seM_eq (k := 99) (by decide)
  have c110 : seM (seeN T n p) = 110 ↔ seeN T n p = 110 := seM_eq (k := 110) (by decide)
  refine B_X10_takesClause (y_next hrd ?_)
  rw [c98, c99, c110]
  refine ⟨fun q => ?_, fun q => ?_, fun q => ?_, fun q1 q2 q3 => ?_⟩
  · rw [if_pos q] at k
    refine y_wordK (w := 0) (len := 3) (code := 2098) h0 h hb hm hpn (by decide) (by decide) (by decide) (by decide) (by decide) (fun z σ1 h1 => ⟨fun _ => ?_, fun q => absurd rfl q⟩) (fun z hq1 σ1 h1 hb1 hm1 => ⟨fun q => absurd q (by decide), fun _ => ?_⟩)
    · rw [if_neg (by rw [z]; decide)] at k; exact k σ1 h1
    · rw [if_pos z] at k
      unfold barS at k
      refine y_takesE (gn_rq h0 h1 hb1 hm1) (RE.refl σ1) h1.2.2.2.1 hq1 ?_
      cases hres : eiP T n (sgP T n 4) (wdS T n (wrd 0) p).2 with
      | inl q => rw [hres] at k; exact fun σ' hE h16 => ⟨fun z => absurd rfl z, fun _ => k σ' (hE.ga h1 h16)⟩
      | inr a =>
        rw [hres] at k
        refine fun σ2 h2 => ⟨fun _ => ?_, fun z => absurd z (by decide)⟩
        have h3 := h2.1.gn h1 h2.2.1
        have gb := h2.1.gb
        have k : ∀ σ', gnI σ0 a.1 N (v F || a.2.2 F) σ' → σ'.1 60 14 = nI bs → σ'.1 60 15 = nI n → Φ 1 σ' := k
        have setb : ∀ w : Bool, w = (v F || a.2.2 F) → Φ 1 (hv_ui σ2 60 18 (bI w)) := fun w hw => by
          subst hw
          obtain ⟨g1, g2, g3, g4, g5, g6, g7, g8, g9⟩ := h3
          refine k _ ⟨g1, fun k a b c i => by rw [ui_1, if_neg (fun z => a z.1)]; exact g2 k a b c i, fun i hi => by rw [ui_1, if_neg (fun z => by omega)]; exact g3 i hi, g4, g5, g6, g7, g8, ?_⟩ ?_ ?_
          · rw [ui_1, if_pos ⟨rfl, rfl⟩]
          · rw [ui_1, if_neg (by decide), gb.1]; exact hb1
          · rw [ui_1, if_neg (by decide), gb.2]; exact hm1
        have hp0 : σ2.1 73 0 = bI (a.2.2 F) := h2.2.2.2.2.2.1 0 (show 0 < 1 by decide)
        rw [h3.2.2.2.2.2.2.2.2, hp0, ne_eq, bI_0, bI_0]
        refine ⟨fun z => setb true (by simp at z; rw [z]; rfl), fun z => ⟨vp_in_nI (n := 0) (by decide) (by decide), fun z2 => setb false (by rw [z, z2]; rfl), fun z2 => setb true (by simp at z2; rw [z, z2]; rfl)⟩⟩
  · rw [if_neg (by omega), if_pos q] at k
    refine y_wordK (w := 1) (len := 3) (code := 3120) h0 h hb hm hpn (by decide) (by decide) (by decide) (by decide) (by decide) (fun z σ1 h1 => ⟨fun _ => ?_, fun q => absurd rfl q⟩) (fun z hq1 σ1 h1 hb1 hm1 => ⟨fun q => absurd q (by decide), fun _ => ?_⟩)
    · rw [if_neg (by rw [z]; decide)] at k; exact k σ1 h1
    · rw [if_pos z] at k
      refine y_numK h0 h1 hb1 hm1 hq1 (fun c σ2 h2 => ⟨fun q => absurd rfl q, fun _ => ?_⟩) (fun c hq2 σ2 h2 hb2 hm2 h17 => ⟨fun _ => ?_, fun q => absurd q (by decide)⟩)
      · rw [if_pos c] at k; exact k σ2 h2
      · rw [if_neg c] at k
        rw [h17]
        exact k _ (h2.set (j := 2) (v := (fgP T n (wdS T n (wrd 1) p).2).2.1) (by decide) rfl) hb2 hm2
  · rw [if_neg (by omega), if_neg (by omega), if_pos q] at k
    refine y_need h0 h hb hm hpn ?_
    by_cases z : (wdS T n (wrd 2) p).1 = true
    · rw [if_pos z] at k ⊢
      unfold needS at k
      cases hres : ndS T n (wdS T n (wrd 2) p).2 with
      | inl q => rw [hres] at k; exact fun σ' h' => ⟨Or.inl rfl, k σ' h'⟩
      | inr b => rw [hres] at k; exact fun σ' h' hb' hm' => ⟨Or.inr rfl, k σ' h' hb' hm'⟩
    · rw [if_neg z] at k ⊢
      exact fun σ' h' => ⟨Or.inl rfl, k σ' h'⟩
  · rw [if_neg q1, if_neg q2, if_neg q3] at k
    have hne : seeN T n p ≠ 114 → wdS T n (wrd 3) p = (false, p) := fun z => by
      show (if seeN T n p = 114 then _ else (false, p)) = _
      rw [if_neg z]
    refine y_wordK (w := 3) (len := 4) (code := 599495) h0 h hb hm hpn (by decide) (by decide) (by decide) (by decide) (by decide) (fun z σ1 h1 => ⟨fun _ => ?_, fun q => absurd rfl q⟩) (fun z hq1 σ1 h1 hb1 hm1 => ⟨fun q => absurd q (by decide), fun _ => ?_⟩)
    · by_cases c : seeN T n p = 114
      · rw [if_pos c, if_neg (by rw [z]; decide)] at k; exact k σ1 h1
      · rw [if_neg c] at k
        rw [hne c] at h1
        exact k σ1 h1
    · have c : seeN T n p = 114 := Classical.byContradiction (fun c => by rw [hne c] at z; cases z)
      rw [if_pos c, if_pos z] at k
      have hrd1 := rq_rd (gn_rq h0 h1 hb1 hm1) (RE.refl σ1) h1.2.2.2.1 hq1
      generalize (wdS T n (wrd 3) p).2 = p1 at *
      have c108 : seM (seeN T n p1) = 108 ↔ seeN T n p1 = 108 := seM_eq (k := 108) (by decide)
      have c98' : seM (seeN T n p1) = 98 ↔ seeN T n p1 = 98 := seM_eq (k := 98) (by decide)
      have e16 : σ1.1 60 16 + 1 = nI (p1 + 1) := by rw [h1.2.2.2.1, nI_1]
      have setr : ∀ u, seM (seeN T n p1) = (if u = 0 then 108 else 98) → gnI σ0 (p1 + 1) (updN N 5 u) (v F) (hv_ui (hv_ui σ1 60 33 (seM (seeN T n p1))) 60 16 (nI (p1 + 1))) := fun u hu => by
        obtain ⟨g1, g2, g3, g4, g5, g6, g7, g8, g9⟩ := h1.set (j := 5) (v := u) (w := seM (seeN T n p1)) (by decide) hu
        exact ⟨g1, fun k a b c i => by rw [ui_1, if_neg (fun z => a z.1)]; exact g2 k a b c i, fun i hi => by rw [ui_1, if_neg (fun z => by omega)]; exact g3 i hi, by rw [ui_1, if_pos ⟨rfl, rfl⟩], g5, g6, g7, g8, g9⟩
      refine y_next hrd1 ?_
      rw [c108]
      refine ⟨fun z2 => y_next hrd1 ?_, fun z2 => y_next hrd1 ?_⟩
      · rw [if_pos z2] at k
        rw [e16]
        exact k _ (setr 0 (c108.mpr z2)) hb1 hm1
      · rw [if_neg z2] at k
        rw [c98']
        refine ⟨fun z3 => y_next hrd1 ?_, fun z3 => ?_⟩
        · rw [if_pos z3] at k
          rw [e16]
          exact k _ (setr 1 (c98'.mpr z3)) hb1 hm1
        · rw [if_neg z3] at k
          exact k σ1 h1.g
theorem y_goes {Φ : Int32 → hv_S → Prop} {w : Nat} {σ : hv_S} (hw : w ≤ 1) (h0 : gt0 T n (100 * w) F σ) (h69 : σ.1 69 w = nI n)
    (k : match rdH T n with | .inl q => gfa σ Φ q | .inr s => ∀ σ', gnI σ n s.1 (s.2.2 F) σ' → Φ 1 σ') : hv_CI l (hv_e2 e) 6 m_X10_goes [.ref 60, .int (nI w)] σ Φ := by
  have hn := h0.1
  refine B_X10_goes _ ⟨vp_in_nI (by omega) (by decide), ?_⟩
  have e1 : (100 : Int32) * nI w = nI (100 * w) := by rw [show (100 : Int32) = nI 100 from rfl, pk_mul]
  rw [nI_clamp (by omega), h69, e1]
  suffices ∀ f p x2 (s : hHs) σ', x2 + f = 6 → 1 ≤ f → p ≤ n → gnI σ p s.1 (s.2.2 F) σ' → σ'.1 60 14 = nI (100 * w) → σ'.1 60 15 = nI n → (match faP T n f p s with | .inl q => gfa σ Φ q | .inr s => ∀ σ', gnI σ n s.1 (s.2.2 F) σ' → Φ 1 σ') → L_X10_goes_53 l e Φ (nI x2) σ' by
    refine this 6 0 0 ((999, 1, 2, 0), [], fun _ => false) _ rfl (by decide) (Nat.zero_le n) ⟨rfl, fun k a b c i => ?_, fun i hi => ?_, ?_, ?_, ?_, ?_, ?_, ?_⟩ ?_ ?_ k
    · simp only [ui_1, a, false_and, if_false]
    · simp only [ui_1, show i ≠ 33 by omega, show i ≠ 32 by omega, show i ≠ 31 by omega, show i ≠ 30 by omega, show i ≠ 18 by omega, show i ≠ 16 by omega, show i ≠ 15 by omega, show i ≠ 14 by omega, and_false, if_false]
    all_goals (simp only [ui_1]; rfl)
  intro f
  induction f with
  | zero => intro p x2 s σ' _ h1 _ _ _ _ _; exact absurd h1 (by decide)
  | succ f ih =>
    intro p x2 s σ' hx hf hp h hb hm k
    have e1 : faP T n (f + 1) p s = (match clP T n p s with | .inl q => .inl q | .inr b => if b.1 = n then .inr b.2 else if f = 0 ∨ seeN T n b.1 ≠ 59 then .inl b.1 else faP T n f (b.1 + 1) b.2) := rfl
    rw [e1] at k
    have hcl : ∀ b, clP T n p s = .inr b → b.1 ≤ n := fun b hbb => by
      have key : kCL (fun _ => True) (fun a => a.1 ≤ n) (clP T n p s) := clB hp
      rw [hbb] at key; exact key
    refine B_X10_goes_53 _ (y_clause (C := s.2.1) (v := s.2.2) h0 h hb hm hp ?_)
    cases hres : clP T n p (s.1, s.2.1, s.2.2) with
    | inl q =>
      rw [show clP T n p s = clP T n p (s.1, s.2.1, s.2.2) from rfl, hres] at k
      exact fun σ2 h2 => ⟨fun z => absurd rfl z, fun _ => k σ2 h2⟩
    | inr a =>
      have ha := hcl a hres
      rw [show clP T n p s = clP T n p (s.1, s.2.1, s.2.2) from rfl, hres] at k
      have k : (match (if a.1 = n then (.inr a.2 : Nat ⊕ hHs) else if f = 0 ∨ seeN T n a.1 ≠ 59 then .inl a.1 else faP T n f (a.1 + 1) a.2) with | .inl q => gfa σ Φ q | .inr s => ∀ σ', gnI σ n s.1 (s.2.2 F) σ' → Φ 1 σ') := k
      refine fun σ2 h2 hb2 hm2 => ⟨fun _ => ?_, fun z => absurd z (by decide)⟩
      have hrd2 := rq_rd (gn_rq h0 h2 hb2 hm2) (RE.refl σ2) h2.2.2.2.1 ha
      rw [h2.2.2.2.1, hm2, ne_eq, nI_eq (by omega) (by omega), nI_1]
      refine ⟨fun z => ?_, fun z => ?_⟩
      · rw [if_neg z] at k
        have c6 : nI (x2 + 1) = 6 ↔ f = 0 := by
          have := nI_eq (a := x2 + 1) (b := 6) (by omega) (by decide)
          exact this.trans (by omega)
        rw [c6]
        refine ⟨fun z2 => ?_, fun z2 => y_takes (c := 59) (by decide) hrd2 (fun z3 => ⟨fun z => absurd rfl z, fun _ => ?_⟩) (fun z3 σ3 hE3 h3' => ⟨fun _ => ?_, fun z => absurd z (by decide)⟩)⟩
        · rw [if_pos (Or.inl z2)] at k; exact k σ2 h2.g
        · rw [if_pos (Or.inr z3)] at k; exact k σ2 h2.g
        · rw [if_neg (fun c => c.elim z2 (fun c => c z3))] at k
          exact ih (a.1 + 1) (x2 + 1) a.2 σ3 (by omega) (by omega) h3'.2.2.2.2.2.2 (hE3.re.gn h2 h3'.2.2.2.2.2.1) h3'.2.2.2.1 h3'.2.2.2.2.1 k
      · rw [if_pos z] at k
        have h2 : gnI σ a.1 a.2.1 (a.2.2.2 F) σ2 := h2
        rw [z] at h2
        exact k σ2 h2
end GO
