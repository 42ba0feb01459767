-- E, T, F
section EI
variable {l : Launch} {e : hv_Ev} {σ0 : hv_S} {T : Nat → Nat} {n r k : Nat} {N : hQ} {C : List Int32}
def sgC (l : Launch) (e : hv_Ev) (σ0 : hv_S) (T : Nat → Nat) (n r k : Nat) (N : hQ) : Prop := ∀ d p (C : List Int32) σ (Φ : Int32 → hv_S → Prop), 7 + 2 * k ≤ d → p ≤ n → C.length ≤ p → pxI σ0 r n p N C σ → kPR σ0 r n N C Φ (sgP T n k p) → hv_CI l (hv_e1 e) d m_X1_single [.ref 9, .int (nI (4 - k))] σ Φ
theorem x_tm {Φ : Int32 → hv_S → Prop} {d : Nat} {x2 : Int32} (hr : hv_isR r) (h95 : σ0.2.2 9 5 = r) (hT : txI T n σ0) (hS : sgC l e σ0 T n r k N) (hd : 8 + 2 * k ≤ d) :
    ∀ f (a : Nat × List Int32 × hVl) x3 σ, n ≤ a.1 + f → a.1 ≤ n → x3 ≤ a.1 → C.length + a.2.1.length ≤ a.1 → pxI σ0 r n a.1 N (C ++ a.2.1) σ →
      kPQ (fun q => ∀ σ', pxF σ0 r n q σ' → Φ 0 σ') (fun b => ∀ σ', pxI σ0 r n b.1 N (C ++ b.2.1) σ' → L_X1_either_70 l e d (d - 1) Φ (nI (4 - k)) x2 σ') (tmP T n (sgP T n k) f a) → L_X1_either_20 l e d (d - 1) Φ (nI (4 - k)) x2 (nI x3) σ := by
  have hn := hT.1
  intro f
  induction f with
  | zero =>
    intro a x3 σ hf ha hx hc h kk
    refine B_X1_either_20 d (d - 1) (by omega) (by omega) _ _ _ ⟨fun _ => kk σ h, fun _ => x_seen hr hT h.1 ha ⟨fun _ => kk σ h, fun q => ?_⟩⟩
    have := see_lt ((seI_eq (k := 38) (by decide)).mp q) (by decide)
    omega
  | succ f ih =>
    intro a x3 σ hf ha hx hc h kk
    have e1 : tmP T n (sgP T n k) (f + 1) a = if seeN T n a.1 = 38 then (match sgP T n k (a.1 + 1) with | .inl q => .inl q | .inr b => tmP T n (sgP T n k) f (b.1, a.2.1 ++ b.2.1 ++ [-2], fun F => a.2.2 F && b.2.2 F)) else .inr a := rfl
    rw [e1] at kk
    have hneg : seeN T n a.1 ≠ 38 → L_X1_either_70 l e d (d - 1) Φ (nI (4 - k)) x2 σ := fun q => by
      rw [if_neg q] at kk; exact kk σ h
    refine B_X1_either_20 d (d - 1) (by omega) (by omega) _ _ _ ⟨fun q => hneg (fun z => ?_), fun _ => x_seen hr hT h.1 ha ⟨fun q => hneg (fun z => q ((seI_eq (k := 38) (by decide)).mpr z)), fun q => ?_⟩⟩
    · have z1 := see_lt z (by decide)
      have z2 := (nI_leI (a := 100) (b := x3) (by decide) (by omega)).mp q
      omega
    · have q1 : seeN T n a.1 = 38 := (seI_eq (k := 38) (by decide)).mp q
      have l1 := see_lt q1 (by decide)
      rw [if_pos q1] at kk
      rw [h.1.2.2.2, nI_1, nI_1]
      have hok := sg_ok (T := T) (n := n) k (a.1 + 1) l1
      refine hS (d - 1) (a.1 + 1) (C ++ a.2.1) _ _ (by omega) l1 (by rw [List.length_append]; omega) (h.at hr (a.1 + 1)) ?_
      cases hres : sgP T n k (a.1 + 1) with
      | inl q => rw [hres] at kk; exact fun σ' h' => ⟨fun z => absurd rfl z, fun _ => kk σ' h'⟩
      | inr b =>
        rw [hres] at kk hok
        obtain ⟨o1, o2, o3, o4⟩ := hok
        refine fun σ' h' => ⟨fun _ => ?_, fun z => absurd z (by decide)⟩
        rw [rR hr h95 h'.1]
        refine ⟨hr, x_add hr h' (by rw [List.length_append, List.length_append]; omega) (fun σ'' h'' => ?_)⟩
        rw [List.append_assoc, List.append_assoc, ← List.append_assoc a.2.1] at h''
        refine ih (b.1, a.2.1 ++ b.2.1 ++ [-2], fun F => a.2.2 F && b.2.2 F) (x3 + 1) σ'' ?_ o2 ?_ ?_ h'' kk
        · show n ≤ b.1 + f; omega
        · show x3 + 1 ≤ b.1; omega
        · show C.length + (a.2.1 ++ b.2.1 ++ [-2]).length ≤ b.1
          rw [List.length_append, List.length_append]
          show C.length + (a.2.1.length + b.2.1.length + 1) ≤ b.1
          omega
theorem x_term {Φ : Int32 → hv_S → Prop} {d t p : Nat} {σ : hv_S} (hr : hv_isR r) (h95 : σ0.2.2 9 5 = r) (hT : txI T n σ0) (hS : sgC l e σ0 T n r k N) (hd : 8 + 2 * k ≤ d) (ht : t < 100) (hp : p ≤ n) (hC : C.length ≤ p) (h : pxI σ0 r n p N C σ)
    (kk : kPQ (fun q => ∀ σ', pxF σ0 r n q σ' → Φ 0 σ') (fun b => ∀ σ', pxI σ0 r n b.1 N (C ++ b.2.1) σ' → L_X1_either_70 l e d (d - 1) Φ (nI (4 - k)) (nI t) σ') (eiT T n (sgP T n k) p)) : L_X1_either_2 l e d (d - 1) Φ (nI (4 - k)) (nI t) σ := by
  have hok := sg_ok (T := T) (n := n) k p hp
  unfold eiT at kk
  refine B_X1_either_2 d (d - 1) (by omega) (by omega) _ _ ⟨fun q => absurd q (nI_ge (a := t) (b := 100) ht (by decide)), fun _ => hS (d - 1) p C σ _ (by omega) hp hC h ?_⟩
  cases hres : sgP T n k p with
  | inl q => rw [hres] at kk; exact fun σ' h' => ⟨fun z => absurd rfl z, fun _ => kk σ' h'⟩
  | inr a =>
    rw [hres] at kk hok
    obtain ⟨o1, o2, o3, o4⟩ := hok
    exact fun σ' h' => ⟨fun _ => x_tm hr h95 hT hS hd 101 a 0 σ' (by have := hT.1; omega) o2 (by omega) (by omega) h' kk, fun z => absurd z (by decide)⟩
theorem x_after {Φ : Int32 → hv_S → Prop} {d : Nat} (hr : hv_isR r) (h95 : σ0.2.2 9 5 = r) (hT : txI T n σ0) (hS : sgC l e σ0 T n r k N) (hd : 8 + 2 * k ≤ d) :
    ∀ f (a : Nat × List Int32 × hVl) t σ, n ≤ a.1 + f → a.1 ≤ n → 2 * t + 1 ≤ a.1 → C.length + a.2.1.length ≤ a.1 → pxI σ0 r n a.1 N (C ++ a.2.1) σ → kPR σ0 r n N C Φ (eiL T n (sgP T n k) f a) →
      hv_CI l (hv_e1 e) 0 m_X1_seen [.ref 9] σ (fun v s => ((v = 124 → L_X1_either_2 l e d (d - 1) Φ (nI (4 - k)) (nI t + 1) (hv_ui s 9 2 ((s.1 9 2) + 1))) ∧ (¬ v = 124 → Φ 1 s))) := by
  have hn := hT.1
  intro f
  induction f with
  | zero =>
    intro a t σ hf ha ht hc h kk
    refine x_seen hr hT h.1 ha ⟨fun q => ?_, fun _ => kk σ h⟩
    have := see_lt ((seI_eq (k := 124) (by decide)).mp q) (by decide)
    omega
  | succ f ih =>
    intro a t σ hf ha ht hc h kk
    have e1 : eiL T n (sgP T n k) (f + 1) a = if seeN T n a.1 = 124 then (match eiT T n (sgP T n k) (a.1 + 1) with | .inl q => .inl q | .inr b => eiL T n (sgP T n k) f (b.1, a.2.1 ++ b.2.1 ++ [-3], fun F => a.2.2 F || b.2.2 F)) else .inr a := rfl
    rw [e1] at kk
    refine x_seen hr hT h.1 ha ⟨fun q => ?_, fun q => ?_⟩
    · have q1 : seeN T n a.1 = 124 := (seI_eq (k := 124) (by decide)).mp q
      have l1 := see_lt q1 (by decide)
      rw [if_pos q1] at kk
      rw [h.1.2.2.2, nI_1, nI_1]
      have hok := et_ok (T := T) (by omega) (fun p hp => sg_ok (T := T) (n := n) k p hp) (a.1 + 1) l1
      refine x_term hr h95 hT hS hd (by omega) l1 (by rw [List.length_append]; omega) (h.at hr (a.1 + 1)) ?_
      cases hres : eiT T n (sgP T n k) (a.1 + 1) with
      | inl q => rw [hres] at kk; exact kk
      | inr b =>
        rw [hres] at kk hok
        obtain ⟨o1, o2, o3, o4⟩ := hok
        refine fun σ' h' => B_X1_either_70 d (d - 1) (by omega) (by omega) _ _ ⟨fun q => absurd q (nI_nle (by omega) (by omega)), fun _ => ?_⟩
        rw [rR hr h95 h'.1]
        refine ⟨hr, x_add hr h' (by rw [List.length_append, List.length_append]; omega) (fun σ'' h'' => ?_)⟩
        rw [List.append_assoc, List.append_assoc, ← List.append_assoc a.2.1] at h''
        refine ih (b.1, a.2.1 ++ b.2.1 ++ [-3], fun F => a.2.2 F || b.2.2 F) (t + 1) σ'' ?_ o2 ?_ ?_ h'' kk
        · show n ≤ b.1 + f; omega
        · show 2 * (t + 1) + 1 ≤ b.1; omega
        · show C.length + (a.2.1 ++ b.2.1 ++ [-3]).length ≤ b.1
          rw [List.length_append, List.length_append]
          show C.length + (a.2.1.length + b.2.1.length + 1) ≤ b.1
          omega
    · rw [if_neg (fun z => q ((seI_eq (k := 124) (by decide)).mpr z))] at kk
      exact kk σ h
theorem x_either {Φ : Int32 → hv_S → Prop} {d p : Nat} {σ : hv_S} (hr : hv_isR r) (h95 : σ0.2.2 9 5 = r) (hT : txI T n σ0) (hS : sgC l e σ0 T n r k N) (hd : 8 + 2 * k ≤ d) (hp : p ≤ n) (hC : C.length ≤ p) (h : pxI σ0 r n p N C σ) (kk : kPR σ0 r n N C Φ (eiP T n (sgP T n k) p)) :
    hv_CI l (hv_e1 e) d m_X1_either [.ref 9, .int (nI (4 - k))] σ Φ := by
  have hn := hT.1
  have hok := et_ok (T := T) (by omega) (fun p hp => sg_ok (T := T) (n := n) k p hp) p hp
  unfold eiP at kk
  refine B_X1_either d (d - 1) (by omega) (by omega) _ (x_term (t := 0) hr h95 hT hS hd (by decide) hp hC h ?_)
  cases hres : eiT T n (sgP T n k) p with
  | inl q => rw [hres] at kk; exact kk
  | inr a =>
    rw [hres] at kk hok
    obtain ⟨o1, o2, o3, o4⟩ := hok
    refine fun σ' h' => B_X1_either_70 d (d - 1) (by omega) (by omega) _ _ ⟨fun _ => x_after hr h95 hT hS hd 101 a 0 σ' (by omega) o2 (by omega) (by omega) h' kk, fun q => absurd (by decide) q⟩
theorem x_single (hr : hv_isR r) (h95 : σ0.2.2 9 5 = r) (hT : txI T n σ0) : ∀ k, k ≤ 4 → sgC l e σ0 T n r k N := by
  have hn := hT.1
  intro k
  induction k with
  | zero =>
    intro _ d p C σ Φ hd hp hC h kk
    have e1 : sgP T n 0 p = if seeN T n p = 33 ∨ seeN T n p = 40 then .inl p else tsP T n p := rfl
    rw [e1] at kk
    have no : (seeN T n p = 33 ∨ seeN T n p = 40) → ∀ x2, L_X1_single_22 l e d (d - 1) Φ (nI (4 - 0)) x2 σ := fun q x2 => by
      rw [if_pos q] at kk
      exact B_X1_single_22 d (d - 1) (by omega) (by omega) _ _ ⟨fun z => absurd z (by decide), fun _ => kk σ h.1⟩
    refine B_X1_single d (d - 1) (by omega) (by omega) _ (x_seen hr hT h.1 hp ⟨fun q => no (Or.inl ((seI_eq (k := 33) (by decide)).mp q)) _, fun q => ⟨fun q2 => no (Or.inr ((seI_eq (k := 40) (by decide)).mp q2)) _, fun q2 => ?_⟩⟩)
    have q3 : ¬ (seeN T n p = 33 ∨ seeN T n p = 40) := fun z => z.elim (fun z => q ((seI_eq (k := 33) (by decide)).mpr z)) (fun z => q2 ((seI_eq (k := 40) (by decide)).mpr z))
    rw [if_neg q3] at kk
    refine x_test hr h95 hT h hp hC (kPQ_mono kk (fun q hq σ' h' => ⟨Or.inl rfl, hq σ' h'⟩) (fun a _ ha σ' h' => ⟨Or.inr rfl, ha σ' h'⟩))
  | succ k ih =>
    intro hk4 d p C σ Φ hd hp hC h kk
    have hS := ih (by omega)
    have e1 : sgP T n (k + 1) p = if seeN T n p = 33 then ntP (sgP T n k (p + 1)) else if seeN T n p = 40 then prP T n (eiP T n (sgP T n k) (p + 1)) else tsP T n p := rfl
    rw [e1] at kk
    have ex : nI (4 - (k + 1)) + 1 = nI (4 - k) := by rw [nI_1]; congr 1; omega
    have h4 : nI (4 - (k + 1)) < 4 := nI_lt (a := 4 - (k + 1)) (b := 4) (by omega) (by decide)
    refine B_X1_single d (d - 1) (by omega) (by omega) _ (x_seen hr hT h.1 hp ⟨fun q => ?_, fun q => ⟨fun q2 => ?_, fun q2 => ?_⟩⟩)
    · have q1 : seeN T n p = 33 := (seI_eq (k := 33) (by decide)).mp q
      have l1 := see_lt q1 (by decide)
      rw [if_pos q1] at kk
      rw [q]
      refine B_X1_single_22 d (d - 1) (by omega) (by omega) _ _ ⟨fun _ => ⟨fun z => absurd rfl z, fun _ => ?_⟩, fun z => absurd h4 z⟩
      rw [ex, h.1.2.2.2, nI_1]
      have hok := sg_ok (T := T) (n := n) k (p + 1) l1
      refine hS (d - 1) (p + 1) C _ _ (by omega) l1 (by omega) (h.at hr (p + 1)) ?_
      cases hres : sgP T n k (p + 1) with
      | inl q => rw [hres] at kk; exact fun σ' h' => ⟨fun z => absurd rfl z, fun _ => kk σ' h'⟩
      | inr a =>
        rw [hres] at kk hok
        obtain ⟨o1, o2, o3, o4⟩ := hok
        refine fun σ' h' => ⟨fun _ => ?_, fun z => absurd z (by decide)⟩
        rw [rR hr h95 h'.1]
        refine ⟨hr, x_add hr h' (by rw [List.length_append]; omega) (fun σ'' h'' => ?_)⟩
        rw [List.append_assoc] at h''
        exact kk σ'' h''
    · have q1 : seeN T n p = 40 := (seI_eq (k := 40) (by decide)).mp q2
      have l1 := see_lt q1 (by decide)
      rw [if_neg (by omega), if_pos q1] at kk
      rw [q2]
      refine B_X1_single_22 d (d - 1) (by omega) (by omega) _ _ ⟨fun _ => ⟨fun _ => ?_, fun z => absurd z (by decide)⟩, fun z => absurd h4 z⟩
      rw [ex, h.1.2.2.2, nI_1]
      have hok := ei_ok (T := T) (by omega) (fun p hp => sg_ok (T := T) (n := n) k p hp) (p + 1) l1
      refine x_either hr h95 hT hS (by omega) l1 (by omega) (h.at hr (p + 1)) ?_
      cases hres : eiP T n (sgP T n k) (p + 1) with
      | inl q => rw [hres] at kk; exact fun σ' h' => ⟨fun _ => kk σ' h', fun z => absurd rfl z⟩
      | inr a =>
        rw [hres] at kk hok
        obtain ⟨o1, o2, o3, o4⟩ := hok
        refine fun σ' h' => ⟨fun z => absurd z (by decide), fun _ => x_seen hr hT h'.1 o2 ⟨fun z => ?_, fun z => ?_⟩⟩
        · have z1 : seeN T n a.1 = 41 := (seI_eq (k := 41) (by decide)).mp z
          have kk : kPR σ0 r n N C Φ (if seeN T n a.1 = 41 then .inr (a.1 + 1, a.2.1, a.2.2) else .inl a.1) := kk
          rw [if_pos z1] at kk
          rw [h'.1.2.2.2, nI_1]
          exact kk _ (h'.at hr (a.1 + 1))
        · have z1 : ¬ seeN T n a.1 = 41 := fun c => z ((seI_eq (k := 41) (by decide)).mpr c)
          have kk : kPR σ0 r n N C Φ (if seeN T n a.1 = 41 then .inr (a.1 + 1, a.2.1, a.2.2) else .inl a.1) := kk
          rw [if_neg z1] at kk
          exact kk σ' h'.1
    · rw [if_neg (fun z => q ((seI_eq (k := 33) (by decide)).mpr z)), if_neg (fun z => q2 ((seI_eq (k := 40) (by decide)).mpr z))] at kk
      refine x_test hr h95 hT h hp hC (kPQ_mono kk (fun q hq σ' h' => ⟨Or.inl rfl, hq σ' h'⟩) (fun a _ ha σ' h' => ⟨Or.inr rfl, ha σ' h'⟩))
end EI
