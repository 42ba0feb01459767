-- THE REFERENCE: F, T, E
section RS
variable {l : Launch} {e : hv_Ev} {σ0 : hv_S} {T : Nat → Nat} {n bs : Nat} {F : Nat → Nat} {Φ : Int32 → hv_S → Prop}
/-- behind settled signs, where neither & nor | stands -/
def GGt (l : Launch) (e : hv_Ev) (Φ : Int32 → hv_S → Prop) (v2 : Int32) (s4 : hv_S) : Prop := (((s4.1 60 27) ≠ 0 → ((v2 = 41 → (vp_in ((s4.1 60 28) - 1) 101 ∧ hv_CV l (hv_e2 e) 0 m_X10_push [.ref 60, .int (s4.1 73 (((s4.1 60 28) - 1).toNatClampNeg))] (hv_ui (hv_ui (hv_ui (hv_ui s4 60 27 ((s4.1 60 27) - 1)) 60 29 ((s4.1 60 29) - 1)) 60 28 ((s4.1 60 28) - 1)) 60 16 ((s4.1 60 16) + 1)) (fun s7 => L_X10_takesE_17 l e Φ 0 s7))) ∧ (¬ v2 = 41 → Φ 0 s4))) ∧ ((s4.1 60 27) = 0 → Φ 1 s4))
def sgM (l : Launch) (e : hv_Ev) (σ0 : hv_S) (T : Nat → Nat) (n : Nat) (F : Nat → Nat) (Φ : Int32 → hv_S → Prop) (r : Nat) : Prop := ∀ (B : List Nat) (k : Nat) (P : List Bool) (o p : Nat) (σ : hv_S), lst B → k ≤ o → o + r = 4 → B.length + k ≤ p → P.length ≤ p → p ≤ n → rqI σ0 p (B ++ List.replicate k 33) P o σ →
  kPQ (fai σ0 Φ) (fun a => ∀ σ', rqI σ0 a.1 B (P ++ [flp k (a.2.2 F)]) (o - k) σ' → L_X10_takesE_17 l e Φ 0 σ') (sgP T n r p) → L_X10_takesE_17 l e Φ 1 σ
theorem lst40 {B : List Nat} (h : lstO B) : lst B := fun B1 x hx => by rw [h B1 x hx]; decide
theorem lst_x {W : List Nat} {c : Nat} (hc : c < 128) (h33 : c ≠ 33) : lst (W ++ [c]) := fun B1 x hx => by
  have := (List.append_inj' hx rfl).2
  have : c = x := by simpa using this
  subst this; exact ⟨hc, h33⟩
/-- a sign is put up -/
theorem rqI.sign {p o c : Nat} {W : List Nat} {P : List Bool} {σ : hv_S} (h : rqI σ0 p W P o σ) (hl : W.length ≤ 100) : rqI σ0 (p + 1) (W ++ [c]) P o (hv_ui (hv_ui (hv_ui σ 72 W.length (nI c)) 60 27 (nI (W.length + 1))) 60 16 (nI (p + 1))) := by
  obtain ⟨hE, h16, h1, h2, h3, h4, h5⟩ := h
  refine ⟨hE.trans ((RE.u7 (by decide)).trans ((RE.u60 (by decide)).trans (RE.u60 (by decide)))), by rw [ui_1, if_pos ⟨rfl, rfl⟩], ?_, fun j hj => ?_, h3, h4, h5⟩
  · rw [ui_1, if_neg (by decide), ui_1, if_pos ⟨rfl, rfl⟩, List.length_append]; rfl
  · rw [List.length_append] at hj
    have hj : j < W.length + 1 := hj
    rw [ui_1, if_neg (fun z => absurd z.1 (by decide)), ui_1, if_neg (fun z => absurd z.1 (by decide)), ui_1]
    by_cases d : j = W.length
    · rw [if_pos ⟨rfl, d⟩, d, getD_x]
    · rw [if_neg (fun z => d z.2), getD_l _ _ _ (by omega)]; exact h2 j (by omega)
theorem oL_l (orp : Option Bool) : (oL orp).length ≤ 1 := by cases orp; exact Nat.zero_le 1; exact Nat.le_refl 1
theorem y_tm {r o : Nat} {B : List Nat} {P : List Bool} {orp : Option Bool} (h0 : rq0 T n bs F σ0) (hS : sgM l e σ0 T n F Φ r) (hB : lstO B) (hor : o + r = 4) :
    ∀ f (a : Nat × List Int32 × hVl) andp t σ, n ≤ a.1 + f → a.1 ≤ n → B.length + (oL orp).length + 1 ≤ a.1 → P.length + (oL orp).length + (oL andp).length + 1 ≤ a.1 → tvl andp t = a.2.2 F → rqI σ0 a.1 (B ++ sW orp andp) (P ++ sP orp andp t) o σ →
      kPQ (fai σ0 Φ) (fun b => ∀ andp' t' σ', seeN T n b.1 ≠ 38 → b.1 ≤ n → B.length + (oL orp).length + 1 ≤ b.1 → P.length + (oL orp).length + (oL andp').length + 1 ≤ b.1 → tvl andp' t' = b.2.2 F → rqI σ0 b.1 (B ++ sW orp andp') (P ++ sP orp andp' t') o σ' → L_X10_takesE_17 l e Φ 0 σ') (tmP T n (sgP T n r) f a) → L_X10_takesE_17 l e Φ 0 σ := by
  have hn := h0.1
  intro f
  induction f with
  | zero =>
    intro a andp t σ hf ha hb1 hp1 ht h kk
    refine kk andp t σ (fun q => ?_) ha hb1 hp1 ht h
    have := see_lt q (by decide)
    omega
  | succ f ih =>
    intro a andp t σ hf ha hb1 hp1 ht h kk
    have e1 : tmP T n (sgP T n r) (f + 1) a = if seeN T n a.1 = 38 then (match sgP T n r (a.1 + 1) with | .inl q => .inl q | .inr b => tmP T n (sgP T n r) f (b.1, a.2.1 ++ b.2.1 ++ [-2], fun F => a.2.2 F && b.2.2 F)) else .inr a := rfl
    rw [e1] at kk
    by_cases c : seeN T n a.1 = 38
    · rw [if_pos c] at kk
      have l1 := see_lt c (by decide)
      have hrd := rq_rd h0 h.1 h.2.1 ha
      have c38 : seM (seeN T n a.1) = 38 := (seM_eq (k := 38) (by decide)).mpr c
      have lo := oL_l orp
      have la := oL_l andp
      refine B_X10_takesE_17 _ (y_next hrd ⟨fun _ => ⟨fun _ => ?_, fun q => absurd c38 q⟩, fun q => absurd rfl q⟩)
      rw [c38]
      refine B_X10_takesE_117 _ (y_settA h hB (by omega) (by omega) (fun σ1 h1 => ?_))
      have hlw : (B ++ sW orp none).length = B.length + (oL orp).length := by rw [List.length_append, sW_l]; rfl
      have hlp : (P ++ sP orp none (tvl andp t)).length = P.length + (oL orp).length + 1 := by rw [List.length_append, sP_l]; simp [oL]; omega
      have hw1 := h1.2.2.1
      have h16 := h1.2.1
      rw [hlw] at hw1
      rw [hw1, h16, nI_clamp (by omega), nI_1, nI_1]
      have h2 := h1.sign (c := 38) (by omega)
      rw [hlw] at h2
      have eW : B ++ sW orp none ++ [38] = (B ++ sW orp none ++ [38]) ++ List.replicate 0 33 := by simp
      rw [eW] at h2
      refine ⟨vp_in_nI (by omega) (by decide), hS (B ++ sW orp none ++ [38]) 0 (P ++ sP orp none (tvl andp t)) o (a.1 + 1) _ (lst_x (by decide) (by decide)) (Nat.zero_le o) hor (by rw [List.length_append, hlw]; simp; omega) (by omega) l1 h2 ?_⟩
      have hok := sg_ok (T := T) (n := n) r (a.1 + 1) l1
      cases hres : sgP T n r (a.1 + 1) with
      | inl q => rw [hres] at kk; exact kk
      | inr b =>
        rw [hres] at kk hok
        obtain ⟨o1, o2, o3, o4⟩ := hok
        refine fun σ' h' => ih (b.1, a.2.1 ++ b.2.1 ++ [-2], fun F => a.2.2 F && b.2.2 F) (some (tvl andp t)) (b.2.2 F) σ' ?_ o2 ?_ ?_ ?_ ?_ kk
        · show n ≤ b.1 + f; omega
        · show _ ≤ b.1; omega
        · show _ ≤ b.1; simp [oL]; simp [oL] at hp1; omega
        · show (tvl andp t && b.2.2 F) = (a.2.2 F && b.2.2 F); rw [ht]
        · have e2 : B ++ sW orp (some (tvl andp t)) = B ++ sW orp none ++ [38] := by cases orp <;> simp [sW]
          have e3 : P ++ sP orp (some (tvl andp t)) (b.2.2 F) = P ++ sP orp none (tvl andp t) ++ [flp 0 (b.2.2 F)] := by simp [sP, oL, flp]
          rw [e2, e3]; exact h'
    · rw [if_neg c] at kk
      exact kk andp t σ c ha hb1 hp1 ht h
theorem y_el {r o : Nat} {B : List Nat} {P : List Bool} (h0 : rq0 T n bs F σ0) (hS : sgM l e σ0 T n F Φ r) (hB : lstO B) (hor : o + r = 4) :
    ∀ f (a : Nat × List Int32 × hVl) orp andp t σ, n ≤ a.1 + f → a.1 ≤ n → seeN T n a.1 ≠ 38 → B.length + (oL orp).length + 1 ≤ a.1 → P.length + (oL orp).length + (oL andp).length + 1 ≤ a.1 → evl orp (tvl andp t) = a.2.2 F → rqI σ0 a.1 (B ++ sW orp andp) (P ++ sP orp andp t) o σ →
      kPQ (fai σ0 Φ) (fun b => ∀ σ', b.1 ≤ n → rqI σ0 b.1 B (P ++ [b.2.2 F]) o σ' → GGt l e Φ (seM (seeN T n b.1)) σ') (eiL T n (sgP T n r) f a) → L_X10_takesE_17 l e Φ 0 σ := by
  have hn := h0.1
  -- the end
  have fin : ∀ (a : Nat × List Int32 × hVl) orp andp t σ, a.1 ≤ n → seeN T n a.1 ≠ 38 → seeN T n a.1 ≠ 124 → B.length + (oL orp).length + 1 ≤ a.1 → P.length + (oL orp).length + (oL andp).length + 1 ≤ a.1 → evl orp (tvl andp t) = a.2.2 F → rqI σ0 a.1 (B ++ sW orp andp) (P ++ sP orp andp t) o σ → (∀ σ', a.1 ≤ n → rqI σ0 a.1 B (P ++ [a.2.2 F]) o σ' → GGt l e Φ (seM (seeN T n a.1)) σ') → L_X10_takesE_17 l e Φ 0 σ := fun a orp andp t σ ha q38 q124 hb1 hp1 ht h kk => by
    have hrd := rq_rd h0 h.1 h.2.1 ha
    have c38 : seM (seeN T n a.1) = 38 ↔ seeN T n a.1 = 38 := seM_eq (k := 38) (by decide)
    have c124 : seM (seeN T n a.1) = 124 ↔ seeN T n a.1 = 124 := seM_eq (k := 124) (by decide)
    refine B_X10_takesE_17 _ (y_next hrd ⟨fun _ => ⟨fun q => absurd (c38.mp q) q38, fun _ => ⟨fun _ => y_settO h hB (by omega) (by omega) (fun σ1 h1 => ?_), fun q => absurd (c124.mp q) q124⟩⟩, fun q => absurd rfl q⟩)
    rw [ht] at h1
    exact kk σ1 ha h1
  intro f
  induction f with
  | zero =>
    intro a orp andp t σ hf ha q38 hb1 hp1 ht h kk
    refine fin a orp andp t σ ha q38 (fun q => ?_) hb1 hp1 ht h kk
    have := see_lt q (by decide)
    omega
  | succ f ih =>
    intro a orp andp t σ hf ha q38 hb1 hp1 ht h kk
    have e1 : eiL T n (sgP T n r) (f + 1) a = if seeN T n a.1 = 124 then (match eiT T n (sgP T n r) (a.1 + 1) with | .inl q => .inl q | .inr b => eiL T n (sgP T n r) f (b.1, a.2.1 ++ b.2.1 ++ [-3], fun F => a.2.2 F || b.2.2 F)) else .inr a := rfl
    rw [e1] at kk
    by_cases c : seeN T n a.1 = 124
    · rw [if_pos c] at kk
      have l1 := see_lt c (by decide)
      have hrd := rq_rd h0 h.1 h.2.1 ha
      have c124 : seM (seeN T n a.1) = 124 := (seM_eq (k := 124) (by decide)).mpr c
      have lo := oL_l orp
      have la := oL_l andp
      refine B_X10_takesE_17 _ (y_next hrd ⟨fun _ => ⟨fun q => absurd q (by rw [c124]; decide), fun _ => ⟨fun q => absurd c124 q, fun _ => ?_⟩⟩, fun q => absurd rfl q⟩)
      rw [c124]
      refine B_X10_takesE_117 _ (y_settO h hB (by omega) (by omega) (fun σ1 h1 => ?_))
      rw [ht] at h1
      have hw1 := h1.2.2.1
      have h16 := h1.2.1
      rw [hw1, h16, nI_clamp (by omega), nI_1, nI_1]
      have h2 := h1.sign (c := 124) (by omega)
      have eW : B ++ [124] = (B ++ [124]) ++ List.replicate 0 33 := by simp
      rw [eW] at h2
      refine ⟨vp_in_nI (by omega) (by decide), hS (B ++ [124]) 0 (P ++ [a.2.2 F]) o (a.1 + 1) _ (lst_x (by decide) (by decide)) (Nat.zero_le o) hor (by rw [List.length_append]; simp; omega) (by rw [List.length_append]; simp; omega) l1 h2 ?_⟩
      have hok := sg_ok (T := T) (n := n) r (a.1 + 1) l1
      unfold eiT at kk
      cases hres : sgP T n r (a.1 + 1) with
      | inl q => rw [hres] at kk; exact kk
      | inr b =>
        rw [hres] at kk hok
        obtain ⟨o1, o2, o3, o4⟩ := hok
        have hx : oL (some (a.2.2 F)) = [a.2.2 F] := rfl
        refine fun σ' h' => y_tm (orp := some (a.2.2 F)) (P := P) h0 hS hB hor 101 b none (b.2.2 F) σ' (by omega) o2 ?_ ?_ rfl ?_ ?_
        · show B.length + 1 + 1 ≤ b.1; omega
        · show P.length + 1 + 0 + 1 ≤ b.1; omega
        · have e2 : B ++ sW (some (a.2.2 F)) none = B ++ [124] := by simp [sW]
          have e3 : P ++ sP (some (a.2.2 F)) none (b.2.2 F) = P ++ [a.2.2 F] ++ [flp 0 (b.2.2 F)] := by simp [sP, oL, flp]
          rw [e2, e3]; exact h'
        · have kk : kPQ (fai σ0 Φ) (fun b => ∀ σ', b.1 ≤ n → rqI σ0 b.1 B (P ++ [b.2.2 F]) o σ' → GGt l e Φ (seM (seeN T n b.1)) σ') (match tmP T n (sgP T n r) 101 b with | .inl q => .inl q | .inr b => eiL T n (sgP T n r) f (b.1, a.2.1 ++ b.2.1 ++ [-3], fun F => a.2.2 F || b.2.2 F)) := kk
          have htm := tm_ok (T := T) (n := n) (S := sgP T n r) (by omega) (fun p hp => sg_ok (T := T) (n := n) r p hp) (a.1 + 1) 101 b ⟨o1, o2, o3, gd_mono (by omega) o4⟩
          cases hres2 : tmP T n (sgP T n r) 101 b with
          | inl q => rw [hres2] at kk; exact kk
          | inr d =>
            rw [hres2] at kk htm
            obtain ⟨m1, m2, m3, m4⟩ := htm
            refine fun andp' t' σ'' q38' hd hb2 hp2 ht2 h'' => ih (d.1, a.2.1 ++ d.2.1 ++ [-3], fun F => a.2.2 F || d.2.2 F) (some (a.2.2 F)) andp' t' σ'' ?_ hd q38' hb2 hp2 ?_ h'' kk
            · show n ≤ d.1 + f; omega
            · show (a.2.2 F || tvl andp' t') = (a.2.2 F || d.2.2 F); rw [ht2]
    · rw [if_neg c] at kk
      exact fin a orp andp t σ ha q38 c hb1 hp1 ht h kk
theorem y_ei {r o p : Nat} {B : List Nat} {P : List Bool} {σ : hv_S} (h0 : rq0 T n bs F σ0) (hS : sgM l e σ0 T n F Φ r) (hB : lstO B) (hor : o + r = 4) (hl : B.length ≤ p) (hp : P.length ≤ p) (hpn : p ≤ n) (h : rqI σ0 p B P o σ)
    (kk : kPQ (fai σ0 Φ) (fun b => ∀ σ', b.1 ≤ n → rqI σ0 b.1 B (P ++ [b.2.2 F]) o σ' → GGt l e Φ (seM (seeN T n b.1)) σ') (eiP T n (sgP T n r) p)) : L_X10_takesE_17 l e Φ 1 σ := by
  have hn := h0.1
  have hok := sg_ok (T := T) (n := n) r p hpn
  have eW : B = B ++ List.replicate 0 33 := by simp
  rw [eW] at h
  unfold eiP eiT at kk
  refine hS B 0 P o p σ (lst40 hB) (Nat.zero_le o) hor (by omega) hp hpn h ?_
  cases hres : sgP T n r p with
  | inl q => rw [hres] at kk; exact kk
  | inr a =>
    rw [hres] at kk hok
    obtain ⟨o1, o2, o3, o4⟩ := hok
    refine fun σ' h' => y_tm (orp := none) (P := P) h0 hS hB hor 101 a none (a.2.2 F) σ' (by omega) o2 ?_ ?_ rfl ?_ ?_
    · show B.length + 0 + 1 ≤ a.1; omega
    · show P.length + 0 + 0 + 1 ≤ a.1; omega
    · have e2 : B ++ sW none none = B := by simp [sW]
      have e3 : P ++ sP none none (a.2.2 F) = P ++ [flp 0 (a.2.2 F)] := by simp [sP, oL, flp]
      rw [e2, e3]; exact h'
    · have kk : kPQ (fai σ0 Φ) (fun b => ∀ σ', b.1 ≤ n → rqI σ0 b.1 B (P ++ [b.2.2 F]) o σ' → GGt l e Φ (seM (seeN T n b.1)) σ') (match tmP T n (sgP T n r) 101 a with | .inl q => .inl q | .inr a => eiL T n (sgP T n r) 101 a) := kk
      cases hres2 : tmP T n (sgP T n r) 101 a with
      | inl q => rw [hres2] at kk; exact kk
      | inr d =>
        rw [hres2] at kk
        exact fun andp' t' σ'' q38' hd hb2 hp2 ht2 h'' => y_el h0 hS hB hor 101 d none andp' t' σ'' (by omega) hd q38' hb2 hp2 ht2 h'' kk
theorem flp_s (k : Nat) (v : Bool) : flp (k + 1) v = flp k (!v) := rfl
theorem y_sg (h0 : rq0 T n bs F σ0) : ∀ r, r ≤ 4 → sgM l e σ0 T n F Φ r := by
  have hn := h0.1
  intro r
  induction r with
  | zero =>
    intro _ B k P o p σ hB hk hor hl hp hpn h kk
    have e1 : sgP T n 0 p = if seeN T n p = 33 ∨ seeN T n p = 40 then .inl p else tsP T n p := rfl
    rw [e1] at kk
    have hrd := rq_rd h0 h.1 h.2.1 hpn
    have c33 : seM (seeN T n p) = 33 ↔ seeN T n p = 33 := seM_eq (k := 33) (by decide)
    have c40 : seM (seeN T n p) = 40 ↔ seeN T n p = 40 := seM_eq (k := 40) (by decide)
    have no : (seeN T n p = 33 ∨ seeN T n p = 40) → ∀ v2, L_X10_takesE_38 l e Φ 1 v2 σ := fun q v2 => by
      rw [if_pos q] at kk
      have e4 : σ.1 60 29 = 4 := by rw [h.2.2.2.2.2.2, show o = 4 by omega]; rfl
      exact B_X10_takesE_38 _ _ ⟨fun z => absurd e4 z, fun _ => kk σ h.1 h.2.1⟩
    refine B_X10_takesE_17 _ (y_next hrd ⟨fun q => absurd q (by decide), fun _ => ⟨fun q => no (Or.inl (c33.mp q)) _, fun q => ⟨fun q2 => ?_, fun q2 => no (Or.inr (c40.mp q2)) _⟩⟩⟩)
    rw [if_neg (fun z => z.elim (fun z => q (c33.mpr z)) (fun z => q2 (c40.mpr z)))] at kk
    refine y_test h0 h hB hk hl hp hpn (kPQ_mono kk (fun q hq σ' hE h16 => ⟨fun _ => hq σ' hE h16, fun z => absurd rfl z⟩) (fun a _ ha σ' h' => ⟨fun z => absurd z (by decide), fun _ => ha σ' h'⟩))
  | succ r ih =>
    intro hr4 B k P o p σ hB hk hor hl hp hpn h kk
    have hS := ih (by omega)
    have e1 : sgP T n (r + 1) p = if seeN T n p = 33 then ntP (sgP T n r (p + 1)) else if seeN T n p = 40 then prP T n (eiP T n (sgP T n r) (p + 1)) else tsP T n p := rfl
    rw [e1] at kk
    have hrd := rq_rd h0 h.1 h.2.1 hpn
    have c33 : seM (seeN T n p) = 33 ↔ seeN T n p = 33 := seM_eq (k := 33) (by decide)
    have c40 : seM (seeN T n p) = 40 ↔ seeN T n p = 40 := seM_eq (k := 40) (by decide)
    have hlw : (B ++ List.replicate k 33).length = B.length + k := by rw [List.length_append, List.length_replicate]
    -- one is put up
    have up : ∀ c, p < n → (∀ σ', rqI σ0 (p + 1) (B ++ List.replicate k 33 ++ [c]) P (o + 1) σ' → L_X10_takesE_17 l e Φ 1 σ') → L_X10_takesE_38 l e Φ 1 (nI c) σ := fun c hpl kk2 => by
      have h27 := h.2.2.1
      have h29 := h.2.2.2.2.2.2
      have h16 := h.2.1
      rw [hlw] at h27
      refine B_X10_takesE_38 _ _ ⟨fun _ => ?_, fun z => ?_⟩
      · rw [h27, h29, h16, nI_clamp (by omega), nI_1, nI_1, nI_1]
        refine ⟨vp_in_nI (by omega) (by decide), kk2 _ ?_⟩
        obtain ⟨hE, -, h1, h2, h3, h4, h5⟩ := h
        refine ⟨hE.trans ((RE.u60 (by decide)).trans ((RE.u7 (by decide)).trans ((RE.u60 (by decide)).trans (RE.u60 (by decide))))), by rw [ui_1, if_pos ⟨rfl, rfl⟩], ?_, fun j hj => ?_, h3, h4, ?_⟩
        · rw [ui_1, if_neg (by decide), ui_1, if_pos ⟨rfl, rfl⟩, List.length_append, hlw]; rfl
        · rw [List.length_append, hlw] at hj
          have hj : j < B.length + k + 1 := hj
          rw [ui_1, if_neg (fun z => absurd z.1 (by decide)), ui_1, if_neg (fun z => absurd z.1 (by decide)), ui_1]
          by_cases d : j = B.length + k
          · rw [if_pos ⟨rfl, d⟩, d, ← hlw, getD_x]
          · rw [if_neg (fun z => d z.2), ui_1, if_neg (fun z => absurd z.1 (by decide)), getD_l _ _ _ (by rw [hlw]; omega)]; exact h2 j (by rw [hlw]; omega)
        · rw [ui_1, if_neg (by decide), ui_1, if_neg (by decide), ui_1, if_neg (fun z => absurd z.1 (by decide)), ui_1, if_pos ⟨rfl, rfl⟩]
      · rw [h29] at z
        have := (nI_eq (b := 4) (by omega) (by decide)).mp z
        omega
    refine B_X10_takesE_17 _ (y_next hrd ⟨fun q => absurd q (by decide), fun _ => ⟨fun q => ?_, fun q => ⟨fun q2 => ?_, fun q2 => ?_⟩⟩⟩)
    · have q1 := c33.mp q
      have l1 := see_lt q1 (by decide)
      rw [if_pos q1] at kk
      rw [q]
      refine up 33 l1 (fun σ1 h1 => ?_)
      rw [List.append_assoc, ← rep_s] at h1
      have hok := sg_ok (T := T) (n := n) r (p + 1) l1
      refine hS B (k + 1) P (o + 1) (p + 1) σ1 hB (by omega) (by omega) (by omega) (by omega) l1 h1 ?_
      cases hres : sgP T n r (p + 1) with
      | inl q => rw [hres] at kk; exact kk
      | inr a =>
        rw [hres] at kk
        have kk : ∀ σ', rqI σ0 a.1 B (P ++ [flp k (!a.2.2 F)]) (o - k) σ' → L_X10_takesE_17 l e Φ 0 σ' := kk
        refine fun σ' h' => kk σ' ?_
        rw [flp_s, show o + 1 - (k + 1) = o - k by omega] at h'
        exact h'
    · rw [if_neg (fun z => q (c33.mpr z)), if_neg (fun z => q2 (c40.mpr z))] at kk
      refine y_test h0 h hB hk hl hp hpn (kPQ_mono kk (fun q hq σ' hE h16 => ⟨fun _ => hq σ' hE h16, fun z => absurd rfl z⟩) (fun a _ ha σ' h' => ⟨fun z => absurd z (by decide), fun _ => ha σ' h'⟩))
    · have q1 := c40.mp q2
      have l1 := see_lt q1 (by decide)
      rw [if_neg (by omega), if_pos q1] at kk
      rw [q2]
      refine up 40 l1 (fun σ1 h1 => ?_)
      have hok := ei_ok (T := T) (n := n) (by omega) (fun p hp => sg_ok (T := T) (n := n) r p hp) (p + 1) l1
      refine y_ei h0 hS (B := B ++ List.replicate k 33 ++ [40]) (fun B1 x hx => ?_) (by omega) (by rw [List.length_append, hlw]; simp; omega) (by omega) l1 h1 ?_
      · have := (List.append_inj' hx rfl).2
        simpa using this.symm
      · cases hres : eiP T n (sgP T n r) (p + 1) with
        | inl q => rw [hres] at kk; exact kk
        | inr a =>
          rw [hres] at kk hok
          obtain ⟨o1, o2, o3, o4⟩ := hok
          have kk : kPQ (fai σ0 Φ) (fun a => ∀ σ', rqI σ0 a.1 B (P ++ [flp k (a.2.2 F)]) (o - k) σ' → L_X10_takesE_17 l e Φ 0 σ') (if seeN T n a.1 = 41 then .inr (a.1 + 1, a.2.1, a.2.2) else .inl a.1) := kk
          refine fun σ2 ha2 h2 => ?_
          have c41 : seM (seeN T n a.1) = 41 ↔ seeN T n a.1 = 41 := seM_eq (k := 41) (by decide)
          obtain ⟨hE, h16, g1, g2, g3, g4, g5⟩ := h2
          have lw : (B ++ List.replicate k 33 ++ [40]).length = B.length + k + 1 := by rw [List.length_append, hlw]; rfl
          have lp : (P ++ [a.2.2 F]).length = P.length + 1 := by rw [List.length_append]; rfl
          rw [lw] at g1
          rw [lp] at g3
          unfold GGt
          rw [g1, g3, g5, h16, c41, nI_pred, nI_pred, nI_pred, nI_1, nI_clamp (by omega)]
          refine ⟨fun _ => ⟨fun z => ?_, fun z => ?_⟩, fun z => absurd z (nI_ne0 (by omega) (by omega))⟩
          · rw [if_pos z] at kk
            have l3 := see_lt z (by decide)
            have kk : ∀ σ', rqI σ0 (a.1 + 1) B (P ++ [flp k (a.2.2 F)]) (o - k) σ' → L_X10_takesE_17 l e Φ 0 σ' := kk
            have gv := g4 P.length (by omega)
            rw [getD_x] at gv
            rw [gv]
            refine ⟨vp_in_nI (by omega) (by decide), y_pushC (a.2.2 F) (σ0 := σ0) (p := a.1 + 1) (o := o) (k := k) (B := B) (P := P) ⟨hE.trans ((RE.u60 (by decide)).trans ((RE.u60 (by decide)).trans ((RE.u60 (by decide)).trans (RE.u60 (by decide))))), by rw [ui_1, if_pos ⟨rfl, rfl⟩], ?_, fun j hj => ?_, ?_, fun j hj => ?_, ?_⟩ hB hk (by omega) (by omega) kk⟩
            · simp only [ui_1]; rw [hlw]; rfl
            · rw [hlw] at hj
              have := g2 j (by rw [lw]; omega)
              rw [getD_l _ _ _ (by rw [hlw]; omega)] at this
              exact this
            · simp only [ui_1]; rfl
            · have := g4 j (by omega)
              rw [getD_l _ _ _ hj] at this
              exact this
            · simp only [ui_1]; rfl
          · rw [if_neg z] at kk
            exact kk σ2 hE h16
end RS
