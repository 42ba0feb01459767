-- THE REFERENCE READS E
section TS
variable {l : Launch} {e : hv_Ev} {σ0 : hv_S} {T : Nat → Nat} {n bs : Nat} {F : Nat → Nat}
theorem tru_at {f s v : Nat} (hf : f < 5) (hs : s < 3) (hv : v < 1000) : tru F ((f * 3 + s) * 1000 + v) = true ↔ (s = 0 ∧ F f < v ∨ s = 1 ∧ F f = v ∨ s = 2 ∧ v < F f) := by
  have e1 : ((f * 3 + s) * 1000 + v) / 3000 = f := by omega
  have e2 : ((f * 3 + s) * 1000 + v) / 1000 % 3 = s := by omega
  have e3 : ((f * 3 + s) * 1000 + v) % 1000 = v := by omega
  unfold tru
  rw [decide_eq_true_iff, e1, e2, e3]
  exact ⟨fun q => q.2, fun q => ⟨hf, q⟩⟩
def lst (B : List Nat) : Prop := ∀ B1 x, B = B1 ++ [x] → x < 128 ∧ x ≠ 33
abbrev fai (σ0 : hv_S) (Φ : Int32 → hv_S → Prop) : Nat → Prop := fun q => ∀ σ', RE σ0 σ' → σ'.1 60 16 = nI q → Φ 0 σ'
theorem y_pushC {Φ : hv_S → Prop} {p o k : Nat} {B : List Nat} {P : List Bool} {σ : hv_S} (v : Bool) (h : rqI σ0 p (B ++ List.replicate k 33) P o σ) (hB : lst B) (hk : k ≤ o) (hl : B.length + k ≤ 100) (hp : P.length ≤ 100) (kk : ∀ σ', rqI σ0 p B (P ++ [flp k v]) (o - k) σ' → Φ σ') : hv_CV l (hv_e2 e) 0 m_X10_push [.ref 60, .int (bI v)] σ Φ :=
  B_X10_push _ (y_push k v o σ h hB hk hl hp kk)
/-- from the letter on -/
theorem y_tail {Φ : Int32 → hv_S → Prop} {p o k f : Nat} {B : List Nat} {P : List Bool} {σ : hv_S} (h0 : rq0 T n bs F σ0) (h : rqI σ0 p (B ++ List.replicate k 33) P o σ) (hB : lst B) (hk : k ≤ o) (hl : B.length + k ≤ p) (hp : P.length ≤ p) (hf : f < 5) (hlt : ltI (seeN T n p) = f)
    (kk : kPQ (fai σ0 Φ) (fun a => ∀ σ', rqI σ0 a.1 B (P ++ [flp k (a.2.2 F)]) (o - k) σ' → Φ 1 σ') (tsP T n p)) :
    hv_CI l (hv_e2 e) 0 m_X10_next [.ref 60] (hv_ui σ 60 16 ((σ.1 60 16) + 1)) (fun v5 s4 => hv_CI l (hv_e2 e) 0 m_X10_in [.ref 60, .int v5, .int 60, .int 62] s4 (fun v8 s7 => ((v8 ≠ 0 → hv_CI l (hv_e2 e) 2 m_X10_takesNumber [.ref 60, .int 0] (hv_ui s7 60 16 ((s7.1 60 16) + 1)) (fun v11 s10 => ((v11 ≠ 0 → ((v5 ≠ 60 → ((v5 ≠ 61 → (vp_in (nI f) 5 ∧ (((s10.1 70 f) ≤ (s10.1 60 17) → hv_CV l (hv_e2 e) 0 m_X10_push [.ref 60, .int 0] s10 (fun s13 => Φ 1 s13)) ∧ (¬ (s10.1 70 f) ≤ (s10.1 60 17) → hv_CV l (hv_e2 e) 0 m_X10_push [.ref 60, .int 1] s10 (fun s16 => Φ 1 s16))))) ∧ (v5 = 61 → (vp_in (nI f) 5 ∧ (((s10.1 70 f) ≠ (s10.1 60 17) → hv_CV l (hv_e2 e) 0 m_X10_push [.ref 60, .int 0] s10 (fun s19 => Φ 1 s19)) ∧ ((s10.1 70 f) = (s10.1 60 17) → hv_CV l (hv_e2 e) 0 m_X10_push [.ref 60, .int 1] s10 (fun s22 => Φ 1 s22))))))) ∧ (v5 = 60 → (vp_in (nI f) 5 ∧ (((s10.1 60 17) ≤ (s10.1 70 f) → hv_CV l (hv_e2 e) 0 m_X10_push [.ref 60, .int 0] s10 (fun s25 => Φ 1 s25)) ∧ (¬ (s10.1 60 17) ≤ (s10.1 70 f) → hv_CV l (hv_e2 e) 0 m_X10_push [.ref 60, .int 1] s10 (fun s28 => Φ 1 s28))))))) ∧ (v11 = 0 → Φ 0 s10)))) ∧ (v8 = 0 → Φ 0 s7)))) := by
  have hn := h0.1
  have hpn : p < n := ltI_lt (T := T) (n := n) (p := p) (by omega)
  unfold tsP at kk
  rw [if_neg (by omega)] at kk
  have e16 : σ.1 60 16 + 1 = nI (p + 1) := by rw [h.2.1, nI_1]
  rw [e16]
  have h1 : rqI σ0 (p + 1) (B ++ List.replicate k 33) P o (hv_ui σ 60 16 (nI (p + 1))) := h.ne (NE.u (Or.inl rfl)) (by rw [ui_1, if_pos ⟨rfl, rfl⟩])
  have hrd1 := rq_rd h0 h1.1 h1.2.1 hpn
  have hs : (nI 60 ≤ seM (seeN T n (p + 1)) ∧ seM (seeN T n (p + 1)) ≤ nI 62) ↔ (60 ≤ seeN T n (p + 1) ∧ seeN T n (p + 1) ≤ 62) := by
    rw [seM_in (lo := 60) (hi := 62) (by decide)]
    exact ⟨fun q => q.elim id (fun z => absurd z.1 (by decide)), Or.inl⟩
  refine y_next hrd1 (y_in (fun q => ⟨fun z => absurd rfl z, fun _ => ?_⟩) (fun q1 q2 => ⟨fun _ => ?_, fun z => absurd z (by decide)⟩))
  · have : seeN T n (p + 1) < 60 ∨ 62 < seeN T n (p + 1) := by
      have hz : ¬ (60 ≤ seeN T n (p + 1) ∧ seeN T n (p + 1) ≤ 62) := fun z => q (hs.mpr z)
      omega
    rw [if_pos this] at kk
    exact kk _ h1.1 h1.2.1
  · have hsee := hs.mp ⟨q1, q2⟩
    rw [if_neg (by omega)] at kk
    have hl2 : p + 1 < n := see_lt (T := T) (n := n) (p := p + 1) rfl (by omega)
    have e17 : (hv_ui σ 60 16 (nI (p + 1))).1 60 16 + 1 = nI (p + 2) := by rw [h1.2.1, nI_1]
    rw [e17]
    have h2 : rqI σ0 (p + 2) (B ++ List.replicate k 33) P o (hv_ui (hv_ui σ 60 16 (nI (p + 1))) 60 16 (nI (p + 2))) := h1.ne (NE.u (Or.inl rfl)) (by rw [ui_1, if_pos ⟨rfl, rfl⟩])
    have hrd2 := rq_rd h0 h2.1 h2.2.1 hl2
    have hok := fgP_ok (T := T) (n := n) (p := p + 2) hl2
    refine y_takesNumber false hrd2 (fun q hq σ2 hE2 h2' => ⟨fun z => absurd rfl z, fun _ => ?_⟩) (fun v q hq σ2 hE2 h2' h17 => ⟨fun _ => ?_, fun z => absurd z (by decide)⟩)
    · unfold numR at hq
      by_cases c : (fgP T n (p + 2)).2.2 = 0
      · rw [if_pos c] at hq kk
        have : q = p + 2 := by have := congrArg Prod.snd hq; omega
        subst this
        exact kk _ (h2.1.trans hE2.re) h2'.2.2.2.2.2.1
      · rw [if_neg c, if_neg (fun z => absurd z.1 (by decide))] at hq
        exact absurd (congrArg Prod.fst hq) (by intro z; cases z)
    · unfold numR at hq
      by_cases c : (fgP T n (p + 2)).2.2 = 0
      · rw [if_pos c] at hq
        exact absurd (congrArg Prod.fst hq) (by intro z; cases z)
      · rw [if_neg c, if_neg (fun z => absurd z.1 (by decide))] at hq
        rw [if_neg c] at kk
        have hv : (fgP T n (p + 2)).2.1 = v := Option.some.inj (congrArg Prod.fst hq)
        have hqq : (fgP T n (p + 2)).1 = q := congrArg Prod.snd hq
        have et : tsC T n p = (f * 3 + (seeN T n (p + 1) - 60)) * 1000 + v := by unfold tsC; rw [hlt, hv]
        have h3 : rqI σ0 q (B ++ List.replicate k 33) P o σ2 := h2.ne hE2 h2'.2.2.2.2.2.1
        have h70 : σ2.1 70 f = nI (F f) ∧ F f < 1000 := by
          obtain ⟨w1, w2⟩ := h0.2.2.2.2.2 f hf
          exact ⟨by rw [h3.1.2.1 70 (by decide) (by decide) (by decide)]; exact w1, w2⟩
        have kk : ∀ σ', rqI σ0 q B (P ++ [flp k (tru F (tsC T n p))]) (o - k) σ' → Φ 1 σ' := by rw [← hqq]; exact kk
        have hvl : v < 1000 := by rw [← hv]; exact hok.2.2.2
        have htr := tru_at (F := F) (f := f) (s := seeN T n (p + 1) - 60) (v := v) hf (by omega) hvl
        rw [← et] at htr
        have fin : ∀ b : Bool, b = tru F (tsC T n p) → hv_CV l (hv_e2 e) 0 m_X10_push [.ref 60, .int (bI b)] σ2 (fun s13 => Φ 1 s13) := fun b hb => by
          subst hb
          exact y_pushC _ h3 hB hk (by omega) (by omega) kk
        have fin0 : tru F (tsC T n p) = false → hv_CV l (hv_e2 e) 0 m_X10_push [.ref 60, .int 0] σ2 (fun s13 => Φ 1 s13) := fun q => fin false q.symm
        have fin1 : tru F (tsC T n p) = true → hv_CV l (hv_e2 e) 0 m_X10_push [.ref 60, .int 1] σ2 (fun s13 => Φ 1 s13) := fun q => fin true q.symm
        have c60 : seM (seeN T n (p + 1)) = 60 ↔ seeN T n (p + 1) = 60 := seM_eq (k := 60) (by decide)
        have c61 : seM (seeN T n (p + 1)) = 61 ↔ seeN T n (p + 1) = 61 := seM_eq (k := 61) (by decide)
        have hff : ∀ {Q : Prop}, ¬ Q → (tru F (tsC T n p) = true ↔ Q) → tru F (tsC T n p) = false := fun {Q} hq hiff => by
          cases z : tru F (tsC T n p) with
          | false => rfl
          | true => exact absurd (hiff.mp z) hq
        rw [ne_eq, c60, ne_eq, c61, h70.1, h17, nI_leI (by omega) (by omega), nI_leI (by omega) (by omega), ne_eq, nI_eq (by omega) (by omega)]
        have hv5 : vp_in (nI f) 5 := vp_in_nI hf (by decide)
        refine ⟨fun w1 => ⟨fun w2 => ⟨hv5, fun w3 => fin0 (hff (by omega) htr), fun w3 => fin1 (htr.mpr (by omega))⟩, fun w2 => ⟨hv5, fun w3 => fin0 (hff (by omega) htr), fun w3 => fin1 (htr.mpr (by omega))⟩⟩, fun w1 => ⟨hv5, fun w3 => fin0 (hff (by omega) htr), fun w3 => fin1 (htr.mpr (by omega))⟩⟩
theorem y_test {Φ : Int32 → hv_S → Prop} {p o k : Nat} {B : List Nat} {P : List Bool} {σ : hv_S} (h0 : rq0 T n bs F σ0) (h : rqI σ0 p (B ++ List.replicate k 33) P o σ) (hB : lst B) (hk : k ≤ o) (hl : B.length + k ≤ p) (hp : P.length ≤ p) (hpn : p ≤ n)
    (kk : kPQ (fai σ0 Φ) (fun a => ∀ σ', rqI σ0 a.1 B (P ++ [flp k (a.2.2 F)]) (o - k) σ' → Φ 1 σ') (tsP T n p)) : hv_CI l (hv_e2 e) 3 m_X10_takesTest [.ref 60] σ Φ := by
  have hrd := rq_rd h0 h.1 h.2.1 hpn
  have c97 : seM (seeN T n p) = 97 ↔ seeN T n p = 97 := seM_eq (k := 97) (by decide)
  have c98 : seM (seeN T n p) = 98 ↔ seeN T n p = 98 := seM_eq (k := 98) (by decide)
  have c109 : seM (seeN T n p) = 109 ↔ seeN T n p = 109 := seM_eq (k := 109) (by decide)
  have c115 : seM (seeN T n p) = 115 ↔ seeN T n p = 115 := seM_eq (k := 115) (by decide)
  have c113 : seM (seeN T n p) = 113 ↔ seeN T n p = 113 := seM_eq (k := 113) (by decide)
  have tl := fun f (hf : f < 5) (hlt : ltI (seeN T n p) = f) => y_tail (l := l) (e := e) (Φ := Φ) h0 h hB hk hl hp hf hlt kk
  refine B_X10_takesTest (y_next hrd ?_)
  refine ⟨fun q1 => ⟨fun q2 => ⟨fun q3 => ⟨fun q4 => ⟨fun q5 => ?_, fun q => ?_⟩, fun q => ?_⟩, fun q => ?_⟩, fun q => ?_⟩, fun q => ?_⟩
  · have h5 : ltI (seeN T n p) = 5 := by
      unfold ltI
      rw [if_neg (fun z => q1 (c97.mpr z)), if_neg (fun z => q2 (c98.mpr z)), if_neg (fun z => q3 (c109.mpr z)), if_neg (fun z => q4 (c115.mpr z)), if_neg (fun z => q5 (c113.mpr z))]
    unfold tsP at kk
    rw [if_pos h5] at kk
    exact kk σ h.1 h.2.1
  · exact tl 4 (by decide) (by rw [c113.mp q]; decide)
  · exact tl 3 (by decide) (by rw [c115.mp q]; decide)
  · exact tl 2 (by decide) (by rw [c109.mp q]; decide)
  · exact tl 1 (by decide) (by rw [c98.mp q]; decide)
  · exact tl 0 (by decide) (by rw [c97.mp q]; decide)
end TS
