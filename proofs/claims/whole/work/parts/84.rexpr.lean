-- THE REFERENCE'S PILES
def stM (W : List Nat) (P : List Bool) (o : Nat) (σ : hv_S) : Prop := σ.1 60 27 = nI W.length ∧ (∀ j, j < W.length → σ.1 72 j = nI (W.getD j 0)) ∧ σ.1 60 28 = nI P.length ∧ (∀ j, j < P.length → σ.1 73 j = bI (P.getD j false)) ∧ σ.1 60 29 = nI o
def RE (σ0 σ : hv_S) : Prop := σ.2 = σ0.2 ∧ (∀ k, k ≠ 60 → k ≠ 72 → k ≠ 73 → ∀ j, σ.1 k j = σ0.1 k j) ∧ ∀ j, (j < 16 ∨ 17 < j ∧ j < 27 ∨ 29 < j) → σ.1 60 j = σ0.1 60 j
theorem RE.refl (σ : hv_S) : RE σ σ := ⟨rfl, fun _ _ _ _ _ => rfl, fun _ _ => rfl⟩
theorem RE.trans {σ σ' σ'' : hv_S} (h : RE σ σ') (h2 : RE σ' σ'') : RE σ σ'' := ⟨h2.1.trans h.1, fun k a b c j => (h2.2.1 k a b c j).trans (h.2.1 k a b c j), fun j hj => (h2.2.2 j hj).trans (h.2.2 j hj)⟩
theorem NE.re {σ σ' : hv_S} (h : NE σ σ') : RE σ σ' := ⟨h.1, fun k a _ _ j => h.2.1 k a j, fun j hj => h.2.2 j (by omega) (by omega)⟩
theorem RE.u60 {σ : hv_S} {j : Nat} {v : Int32} (hj : j = 16 ∨ j = 17 ∨ j = 27 ∨ j = 28 ∨ j = 29) : RE σ (hv_ui σ 60 j v) := ⟨rfl, fun k a _ _ j' => by rw [ui_1, if_neg (fun z => a z.1)], fun j' h => by rw [ui_1, if_neg (fun z => by omega)]⟩
theorem RE.u7 {σ : hv_S} {k j : Nat} {v : Int32} (hk : k = 72 ∨ k = 73) : RE σ (hv_ui σ k j v) := ⟨rfl, fun k' a b c j' => by rw [ui_1, if_neg (fun z => by omega)], fun j' h => by rw [ui_1, if_neg (fun z => by omega)]⟩
def rq0 (T : Nat → Nat) (n bs : Nat) (F : Nat → Nat) (σ : hv_S) : Prop := n ≤ 100 ∧ bs ≤ 100 ∧ (∀ k, k < n → σ.1 68 (bs + k) = sxI (T k) ∧ T k < 256) ∧ σ.1 60 14 = nI bs ∧ σ.1 60 15 = nI n ∧ ∀ j, j < 5 → σ.1 70 j = nI (F j) ∧ F j < 1000
def rqI (σ0 : hv_S) (p : Nat) (W : List Nat) (P : List Bool) (o : Nat) (σ : hv_S) : Prop := RE σ0 σ ∧ σ.1 60 16 = nI p ∧ stM W P o σ
theorem rq_rd {T : Nat → Nat} {n bs p : Nat} {F : Nat → Nat} {σ0 σ : hv_S} (h0 : rq0 T n bs F σ0) (hE : RE σ0 σ) (h16 : σ.1 60 16 = nI p) (hp : p ≤ n) : rdM T n bs p σ := by
  obtain ⟨h1, h2, h3, h4, h5, h6⟩ := h0
  exact ⟨h1, h2, fun k hk => by rw [hE.2.1 68 (by decide) (by decide) (by decide)]; exact h3 k hk, by rw [hE.2.2 14 (by decide)]; exact h4, by rw [hE.2.2 15 (by decide)]; exact h5, h16, hp⟩
theorem stM.ne {W : List Nat} {P : List Bool} {o : Nat} {σ σ' : hv_S} (h : stM W P o σ) (e : NE σ σ') : stM W P o σ' := by
  obtain ⟨h1, h2, h3, h4, h5⟩ := h
  exact ⟨by rw [e.2.2 27 (by decide) (by decide)]; exact h1, fun j hj => by rw [e.2.1 72 (by decide)]; exact h2 j hj, by rw [e.2.2 28 (by decide) (by decide)]; exact h3, fun j hj => by rw [e.2.1 73 (by decide)]; exact h4 j hj, by rw [e.2.2 29 (by decide) (by decide)]; exact h5⟩
theorem rqI.ne {σ0 σ σ' : hv_S} {p q : Nat} {W : List Nat} {P : List Bool} {o : Nat} (h : rqI σ0 p W P o σ) (e : NE σ σ') (hq : σ'.1 60 16 = nI q) : rqI σ0 q W P o σ' := ⟨h.1.trans e.re, hq, h.2.2.ne e⟩
theorem getD_l {α : Type} (L M : List α) (d : α) {j : Nat} (h : j < L.length) : (L ++ M).getD j d = L.getD j d := by
  simp only [List.getD_eq_getElem?_getD, List.getElem?_append]
  rw [if_pos h]
theorem getD_x {α : Type} (L M : List α) (x d : α) : (L ++ x :: M).getD L.length d = x := by
  simp only [List.getD_eq_getElem?_getD, List.getElem?_append]
  simp
def flp : Nat → Bool → Bool
  | 0, v => v
  | k + 1, v => flp k (!v)
theorem rep_s (k : Nat) : List.replicate (k + 1) 33 = List.replicate k 33 ++ [33] := List.replicate_succ'
section PU
variable {l : Launch} {e : hv_Ev} {σ σ0 : hv_S} {p : Nat} {W B : List Nat} {P : List Bool} {o : Nat}
/-- one is taken off what waits -/
theorem rqI.pop {x : Nat} (h : rqI σ0 p (W ++ [x]) P o σ) (o' : Nat) : rqI σ0 p W P o' (hv_ui (hv_ui σ 60 27 (nI W.length)) 60 29 (nI o')) := by
  obtain ⟨hE, h16, h1, h2, h3, h4, h5⟩ := h
  refine ⟨hE.trans ((RE.u60 (by decide)).trans (RE.u60 (by decide))), h16, ?_, fun j hj => ?_, h3, h4, ?_⟩
  · rw [ui_1, if_neg (by decide), ui_1, if_pos ⟨rfl, rfl⟩]
  · have := h2 j (by rw [List.length_append]; exact Nat.lt_succ_of_lt hj)
    rw [getD_l _ _ _ hj] at this
    exact this
  · rw [ui_1, if_pos ⟨rfl, rfl⟩]
theorem y_push {Φ : hv_S → Prop} : ∀ (k : Nat) (v : Bool) (o : Nat) (σ : hv_S), rqI σ0 p (B ++ List.replicate k 33) P o σ → (∀ B1 x, B = B1 ++ [x] → x < 128 ∧ x ≠ 33) → k ≤ o → B.length + k ≤ 100 → P.length ≤ 100 → (∀ σ', rqI σ0 p B (P ++ [flp k v]) (o - k) σ' → Φ σ') → L_X10_push_2 l e Φ (bI v) σ := by
  intro k
  induction k with
  | zero =>
    intro v o σ h hB hk hl hp kk
    rw [List.replicate_zero, List.append_nil] at h
    obtain ⟨hE, h16, h1, h2, h3, h4, h5⟩ := h
    have fin : vp_in (σ.1 60 28) 101 ∧ (bI v = 0 ∨ bI v = 1) ∧ Φ (hv_ui (hv_ui σ 73 ((σ.1 60 28).toNatClampNeg) (bI v)) 60 28 ((σ.1 60 28) + 1)) := by
      rw [h3, nI_clamp (by omega), nI_1]
      refine ⟨vp_in_nI (by omega) (by decide), by cases v <;> decide, kk _ ⟨hE.trans ((RE.u7 (by decide)).trans (RE.u60 (by decide))), h16, h1, h2, ?_, fun j hj => ?_, h5⟩⟩
      · rw [ui_1, if_pos ⟨rfl, rfl⟩, List.length_append]; rfl
      · rw [List.length_append] at hj
        have hj : j < P.length + 1 := hj
        rw [ui_1, if_neg (fun z => absurd z.1 (by decide)), ui_1]
        by_cases c : j = P.length
        · rw [if_pos ⟨rfl, c⟩, c, getD_x]; rfl
        · rw [if_neg (fun z => c z.2), getD_l _ _ _ (by omega)]; exact h4 j (by omega)
    refine B_X10_push_2 _ ⟨fun _ => fin, fun q => ?_⟩
    rw [h1] at q ⊢
    cases hb : B.reverse with
    | nil =>
      have : B = [] := List.reverse_eq_nil_iff.mp hb
      subst this
      exact absurd (by decide) q
    | cons x r =>
      have e1 : B = r.reverse ++ [x] := by rw [← List.reverse_reverse B, hb, List.reverse_cons]
      have hx := hB _ _ e1
      have hlen : B.length = r.reverse.length + 1 := by rw [e1, List.length_append]; rfl
      have h2l := h2 r.reverse.length (by omega)
      rw [e1, getD_x] at h2l
      rw [hlen, nI_pred, nI_clamp (by omega), h2l]
      exact ⟨vp_in_nI (by omega) (by decide), fun _ => fin, fun q2 => absurd ((nI_eq (b := 33) (by omega) (by decide)).mp q2) hx.2⟩
  | succ k ih =>
    intro v o σ h hB hk hl hp kk
    rw [rep_s, ← List.append_assoc] at h
    have hpop := h.pop (o - 1)
    obtain ⟨hE, h16, h1, h2, h3, h4, h5⟩ := h
    have hlen : (B ++ List.replicate k 33).length = B.length + k := by rw [List.length_append, List.length_replicate]
    have hl1 : ((B ++ List.replicate k 33) ++ [33]).length = B.length + k + 1 := by rw [List.length_append, hlen]; rfl
    have h2l := h2 (B.length + k) (by rw [hl1]; omega)
    rw [← hlen, getD_x, hlen] at h2l
    rw [hl1] at h1
    rw [hlen] at hpop
    refine B_X10_push_2 _ ?_
    have e29 : σ.1 60 29 - 1 = nI (o - 1) := by rw [h5, show (1 : Int32) = nI 1 from rfl, pk_sub (by omega)]
    rw [h1, nI_pred, nI_clamp (by omega), h2l, e29]
    have hth : ∀ w : Bool, w = (!v) → L_X10_push_2 l e Φ (bI w) (hv_ui (hv_ui σ 60 27 (nI (B.length + k))) 60 29 (nI (o - 1))) := fun w hw => by
      subst hw
      refine ih (!v) (o - 1) _ hpop hB (by omega) (by omega) hp (fun σ' h' => kk σ' ?_)
      rw [show o - (k + 1) = o - 1 - k by omega]
      exact h'
    refine ⟨fun q => absurd q (nI_nle (by omega) (by omega)), fun _ => ⟨vp_in_nI (by omega) (by decide), fun q => absurd rfl q, fun _ => ⟨fun q => ?_, fun q => ?_⟩⟩⟩
    · have : v = true := by
        cases v with
        | true => rfl
        | false => exact absurd rfl q
      exact hth false (by rw [this]; rfl)
    · have : v = false := (bI_0 v).mp q
      exact hth true (by rw [this]; rfl)
/-- two are made one -/
theorem y_pop2 {Φ : hv_S → Prop} {sg : Int32} {c : Nat} {x y : Bool} (h : rqI σ0 p (W ++ [c]) (P ++ [x] ++ [y]) o σ) (hc : c = 38 ∨ c = 124) (hl : W.length ≤ 100) (hp : P.length ≤ 99)
    (kk : ∀ σ', rqI σ0 p W (P ++ [if c = 38 then x && y else x || y]) o σ' → L_X10_settleSigns_0 l e Φ sg σ') : L_X10_settleSigns_45 l e Φ sg σ := by
  obtain ⟨hE, h16, h1, h2, h3, h4, h5⟩ := h
  have l1 : (W ++ [c]).length = W.length + 1 := by rw [List.length_append]; rfl
  have l2 : (P ++ [x] ++ [y]).length = P.length + 1 + 1 := by rw [List.length_append, List.length_append]; rfl
  have l3 : (P ++ [x]).length = P.length + 1 := by rw [List.length_append]; rfl
  have h2l := h2 W.length (by rw [l1]; omega)
  rw [getD_x] at h2l
  have h4x := h4 P.length (by rw [l2]; omega)
  rw [List.append_assoc, List.singleton_append, getD_x] at h4x
  have h4y := h4 (P.length + 1) (by rw [l2]; omega)
  rw [← l3, getD_x, l3] at h4y
  rw [l1] at h1
  rw [l2] at h3
  have fin : ∀ v : Bool, v = (if c = 38 then x && y else x || y) → L_X10_settleSigns_0 l e Φ sg (hv_ui (hv_ui (hv_ui σ 60 27 (nI W.length)) 60 28 (nI (P.length + 1))) 73 P.length (bI v)) := fun v hv => by
    refine kk _ ⟨hE.trans ((RE.u60 (by decide)).trans ((RE.u60 (by decide)).trans (RE.u7 (by decide)))), h16, ?_, fun j hj => ?_, ?_, fun j hj => ?_, h5⟩
    · rw [ui_1, if_neg (fun z => absurd z.1 (by decide)), ui_1, if_neg (by decide), ui_1, if_pos ⟨rfl, rfl⟩]
    · have := h2 j (by rw [l1]; omega)
      rw [getD_l _ _ _ hj] at this
      exact this
    · rw [ui_1, if_neg (fun z => absurd z.1 (by decide)), ui_1, if_pos ⟨rfl, rfl⟩, List.length_append]; rfl
    · rw [List.length_append] at hj
      have hj : j < P.length + 1 := hj
      rw [ui_1]
      by_cases d : j = P.length
      · rw [if_pos ⟨rfl, d⟩, d, getD_x, hv]
      · rw [if_neg (fun z => d z.2), getD_l _ _ _ (by omega)]
        have := h4 j (by rw [l2]; omega)
        rw [List.append_assoc, getD_l _ _ _ (by omega)] at this
        exact this
  refine B_X10_settleSigns_45 _ ?_
  rw [h1, h3, nI_pred, nI_pred, nI_pred, nI_clamp (by omega), nI_clamp (by omega), nI_clamp (by omega), h2l, h4x, h4y]
  have v1 : vp_in (nI W.length) 101 := vp_in_nI (by omega) (by decide)
  have v2 : vp_in (nI P.length) 101 := vp_in_nI (by omega) (by decide)
  have v3 : vp_in (nI (P.length + 1)) 101 := vp_in_nI (by omega) (by decide)
  have z : nI c = 38 ↔ c = 38 := nI_eq (b := 38) (by omega) (by decide)
  rw [ne_eq, z, ne_eq, bI_0, bI_0]
  refine ⟨v1, fun q => ⟨v2, fun q2 => ⟨v2, fin true ?_⟩, fun q2 => ⟨v3, fun q3 => ⟨v2, fin false ?_⟩, fun q3 => ⟨v2, fin true ?_⟩⟩⟩, fun q => ⟨v2, fun q2 => ⟨v2, fin false ?_⟩, fun q2 => ⟨v3, fun q3 => ⟨v2, fin false ?_⟩, fun q3 => ⟨v2, fin true ?_⟩⟩⟩⟩
  · rw [if_neg q]; simp at q2; rw [q2]; rfl
  · rw [if_neg q, q2, q3]; rfl
  · rw [if_neg q, q2]; simp at q3; rw [q3]; rfl
  · rw [if_pos q, q2]; rfl
  · rw [if_pos q]; simp at q2; rw [q2, q3]; rfl
  · rw [if_pos q]; simp at q2 q3; rw [q2, q3]; rfl
/-- nothing to be settled -/
def lstO (B : List Nat) : Prop := ∀ B1 x, B = B1 ++ [x] → x = 40
theorem y_settN {Φ : hv_S → Prop} {sg : Int32} (h : rqI σ0 p W P o σ) (hl : W.length ≤ 101) (hW : ∀ B1 x, W = B1 ++ [x] → x = 40 ∨ x = 124 ∧ sg = 38) (kk : Φ σ) : L_X10_settleSigns_0 l e Φ sg σ := by
  obtain ⟨hE, h16, h1, h2, h3, h4, h5⟩ := h
  refine B_X10_settleSigns_0 _ ⟨fun _ => kk, fun q => ?_⟩
  rw [h1] at q ⊢
  cases hb : W.reverse with
  | nil =>
    have : W = [] := List.reverse_eq_nil_iff.mp hb
    subst this
    exact absurd (by decide) q
  | cons x r =>
    have e1 : W = r.reverse ++ [x] := by rw [← List.reverse_reverse W, hb, List.reverse_cons]
    have hx := hW _ _ e1
    have hlen : W.length = r.reverse.length + 1 := by rw [e1, List.length_append]; rfl
    have h2l := h2 r.reverse.length (by omega)
    rw [e1, getD_x] at h2l
    rw [hlen, nI_pred, nI_clamp (by omega), h2l]
    have v1 : vp_in (nI r.reverse.length) 101 := vp_in_nI (by omega) (by decide)
    have z1 : nI x = 38 ↔ x = 38 := nI_eq (b := 38) (by omega) (by decide)
    have z2 : nI x = 124 ↔ x = 124 := nI_eq (b := 124) (by omega) (by decide)
    rw [z1, ne_eq, z2]
    exact ⟨v1, fun q2 => absurd q2 (by omega), fun _ => ⟨v1, fun _ => kk, fun q3 => ⟨fun _ => kk, fun q4 => by rcases hx with c | c; exact absurd q3 (by omega); exact absurd c.2 q4⟩⟩⟩
theorem y_settP {Φ : hv_S → Prop} {sg : Int32} {c : Nat} (h : rqI σ0 p (W ++ [c]) P o σ) (hl : W.length ≤ 100) (hc : c = 38 ∨ c = 124 ∧ sg ≠ 38) (kk : L_X10_settleSigns_45 l e Φ sg σ) : L_X10_settleSigns_0 l e Φ sg σ := by
  obtain ⟨hE, h16, h1, h2, h3, h4, h5⟩ := h
  have l1 : (W ++ [c]).length = W.length + 1 := by rw [List.length_append]; rfl
  have h2l := h2 W.length (by rw [l1]; omega)
  rw [getD_x] at h2l
  rw [l1] at h1
  refine B_X10_settleSigns_0 _ ⟨fun q => absurd q (by rw [h1]; exact nI_nle (by omega) (by omega)), fun _ => ?_⟩
  rw [h1, nI_pred, nI_clamp (by omega), h2l]
  have v1 : vp_in (nI W.length) 101 := vp_in_nI (by omega) (by decide)
  have z1 : nI c = 38 ↔ c = 38 := nI_eq (b := 38) (by omega) (by decide)
  have z2 : nI c = 124 ↔ c = 124 := nI_eq (b := 124) (by omega) (by decide)
  rw [z1, ne_eq, z2]
  exact ⟨v1, fun _ => kk, fun q => ⟨v1, fun q2 => absurd (by omega) q2, fun _ => ⟨fun q3 => absurd q3 (by rcases hc with c | c; exact absurd c q; exact c.2), fun _ => kk⟩⟩⟩
end PU
-- what is pending
def sW (orp andp : Option Bool) : List Nat := (match orp with | none => [] | some _ => [124]) ++ (match andp with | none => [] | some _ => [38])
def oL : Option Bool → List Bool
  | none => []
  | some x => [x]
def sP (orp andp : Option Bool) (t : Bool) : List Bool := oL orp ++ oL andp ++ [t]
def tvl (andp : Option Bool) (t : Bool) : Bool := match andp with | none => t | some x => x && t
def evl (orp : Option Bool) (t : Bool) : Bool := match orp with | none => t | some x => x || t
theorem sW_l (orp andp : Option Bool) : (sW orp andp).length = (oL orp).length + (oL andp).length := by cases orp <;> cases andp <;> rfl
theorem sP_l (orp andp : Option Bool) (t : Bool) : (sP orp andp t).length = (oL orp).length + (oL andp).length + 1 := by cases orp <;> cases andp <;> rfl
theorem oL_0 : (oL none).length = 0 := rfl
theorem oL_1 (x : Bool) : (oL (some x)).length = 1 := rfl
section SS
variable {l : Launch} {e : hv_Ev} {σ σ0 : hv_S} {p : Nat} {B : List Nat} {P : List Bool} {o : Nat} {orp andp : Option Bool} {t : Bool}
theorem lstO_ne {B1 : List Nat} {x : Nat} (hB : lstO B) (h : B = B1 ++ [x]) : x = 40 := hB _ _ h
theorem y_settA {Φ : hv_S → Prop} (h : rqI σ0 p (B ++ sW orp andp) (P ++ sP orp andp t) o σ) (hB : lstO B) (hl : B.length + (oL orp).length ≤ 99) (hp : P.length + (oL orp).length + (oL andp).length + 1 ≤ 100) (kk : ∀ σ', rqI σ0 p (B ++ sW orp none) (P ++ sP orp none (tvl andp t)) o σ' → Φ σ') : hv_CV l (hv_e2 e) 0 m_X10_settleSigns [.ref 60, .int 38] σ Φ := by
  refine B_X10_settleSigns _ ?_
  have stop : ∀ σ', rqI σ0 p (B ++ sW orp none) (P ++ sP orp none (tvl andp t)) o σ' → L_X10_settleSigns_0 l e Φ 38 σ' := fun σ' h' => by
    refine y_settN h' ?_ (fun B1 x hx => ?_) (kk σ' h')
    · rw [List.length_append, sW_l, oL_0]; omega
    · cases orp with
      | none => simp only [sW, List.append_nil] at hx; exact Or.inl (hB _ _ hx)
      | some y =>
        have e1 : B ++ sW (some y) none = B ++ [124] := rfl
        rw [e1] at hx
        have := (List.append_inj' hx rfl).2
        exact Or.inr ⟨by simpa using this.symm, rfl⟩
  cases andp with
  | none => exact stop σ h
  | some y =>
    have eW : B ++ sW orp (some y) = (B ++ sW orp none) ++ [38] := by cases orp <;> simp [sW]
    have eP : P ++ sP orp (some y) t = (P ++ oL orp) ++ [y] ++ [t] := by simp [sP, oL]
    rw [eW, eP] at h
    have hl2 : (B ++ sW orp none).length ≤ 100 := by rw [List.length_append, sW_l, oL_0]; omega
    refine y_settP h hl2 (Or.inl rfl) (y_pop2 h (Or.inl rfl) hl2 ?_ (fun σ' h' => stop σ' ?_))
    · rw [List.length_append]; rw [oL_1] at hp; omega
    · have eP2 : P ++ sP orp none (tvl (some y) t) = (P ++ oL orp) ++ [y && t] := by simp [sP, oL, tvl]
      rw [eP2]; exact h'
theorem y_settO {Φ : hv_S → Prop} (h : rqI σ0 p (B ++ sW orp andp) (P ++ sP orp andp t) o σ) (hB : lstO B) (hl : B.length + (oL orp).length ≤ 99) (hp : P.length + (oL orp).length + (oL andp).length + 1 ≤ 100) (kk : ∀ σ', rqI σ0 p B (P ++ [evl orp (tvl andp t)]) o σ' → Φ σ') : hv_CV l (hv_e2 e) 0 m_X10_settleSigns [.ref 60, .int 124] σ Φ := by
  refine B_X10_settleSigns _ ?_
  have stop : ∀ σ', rqI σ0 p B (P ++ [evl orp (tvl andp t)]) o σ' → L_X10_settleSigns_0 l e Φ 124 σ' := fun σ' h' => y_settN h' (by omega) (fun B1 x hx => Or.inl (hB _ _ hx)) (kk σ' h')
  have one : ∀ σ', rqI σ0 p (B ++ sW orp none) (P ++ sP orp none (tvl andp t)) o σ' → L_X10_settleSigns_0 l e Φ 124 σ' := fun σ' h' => by
    cases orp with
    | none => rw [show B ++ sW none none = B by simp [sW], show P ++ sP none none (tvl andp t) = P ++ [evl none (tvl andp t)] by simp [sP, oL, evl]] at h'; exact stop σ' h'
    | some y =>
      rw [show B ++ sW (some y) none = B ++ [124] by simp [sW], show P ++ sP (some y) none (tvl andp t) = P ++ [y] ++ [tvl andp t] by simp [sP, oL]] at h'
      rw [oL_1] at hl hp; exact y_settP h' (by omega) (Or.inr ⟨rfl, by decide⟩) (y_pop2 h' (Or.inr rfl) (by omega) (by omega) (fun σ'' h'' => stop σ'' h''))
  cases andp with
  | none => exact one σ h
  | some y =>
    have eW : B ++ sW orp (some y) = (B ++ sW orp none) ++ [38] := by cases orp <;> simp [sW]
    have eP : P ++ sP orp (some y) t = (P ++ oL orp) ++ [y] ++ [t] := by simp [sP, oL]
    rw [eW, eP] at h
    have hl2 : (B ++ sW orp none).length ≤ 100 := by rw [List.length_append, sW_l, oL_0]; omega
    refine y_settP h hl2 (Or.inl rfl) (y_pop2 h (Or.inl rfl) hl2 ?_ (fun σ' h' => one σ' ?_))
    · rw [List.length_append]; rw [oL_1] at hp; omega
    · have eP2 : P ++ sP orp none (tvl (some y) t) = (P ++ oL orp) ++ [y && t] := by simp [sP, oL, tvl]
      rw [eP2]; exact h'
end SS
