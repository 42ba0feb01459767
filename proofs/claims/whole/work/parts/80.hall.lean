-- THE HALL
def emD (D : hD) : hD := aU D 0 7 0
def nwD (D : hD) (N : hQ) : hD := aU (aU (aU (aU (aU (aU D 0 2 (D 0 2 + 1)) 0 3 N.1) 0 4 N.2.1) 0 5 N.2.2.1) 0 6 N.2.2.2) 0 7 0
def hlR (D : hD) (hb : hB) : Int32 × hD × hB := match rdH (fun k => D 8 k) (D 0 7) with
  | .inl q => (-10 - nI q, emD D, hb)
  | .inr s => (nI (D 0 2 + 1), nwD D s.1, fun a b m x y => s.2.2 (fct a b m x y))
theorem nw_n (D : hD) (N : hQ) {i : Nat} (h : i ≠ 0) (j : Nat) : nwD D N i j = D i j := by
  unfold nwD
  rw [aU_n _ _ _ _ h, aU_n _ _ _ _ h, aU_n _ _ _ _ h, aU_n _ _ _ _ h, aU_n _ _ _ _ h, aU_n _ _ _ _ h]
theorem emD_W {D : hD} (hW : hWF D) : hWF (emD D) := by
  obtain ⟨g0, g1, g2, g3, g4, g5, g6, g7, g8, g9, g10, g11, g12, g13⟩ := hW
  exact ⟨g0, g1, g2, g3, g4, g5, g6, g7, Nat.zero_le _, g9, g10, fun k hk => absurd hk (Nat.not_lt_zero k), g12, g13⟩
theorem nwD_W {D : hD} (hW : hWF D) (hl : D 0 2 < 100000) {N : hQ} (hN : N.1 ≤ 999 ∧ N.2.1 ≤ 999 ∧ 1 ≤ N.2.2.1 ∧ N.2.2.1 ≤ 999 ∧ N.2.2.2 ≤ 1) : hWF (nwD D N) := by
  obtain ⟨g0, g1, g2, g3, g4, g5, g6, g7, g8, g9, g10, g11, g12, g13⟩ := hW
  exact ⟨g0, g1, hl, hN.1, hN.2.1, hN.2.2.1, hN.2.2.2.1, hN.2.2.2.2, Nat.zero_le _, g9, g10, fun k hk => absurd hk (Nat.not_lt_zero k), g12, g13⟩
theorem hlR_W {D : hD} {hb : hB} (hW : hWF D) (hl : D 0 2 < 100000) : hWF (hlR D hb).2.1 := by
  have := rd_ok (T := fun k => D 8 k) (n := D 0 7)
  unfold hlR
  cases hres : rdH (fun k => D 8 k) (D 0 7) with
  | inl q => exact emD_W hW
  | inr s => rw [hres] at this; exact nwD_W hW hl this.1
/-- no more halls than before, and one -/
theorem hlR_n {D : hD} {hb : hB} : (hlR D hb).2.1 0 2 ≤ D 0 2 + 1 := by
  unfold hlR
  cases hres : rdH (fun k => D 8 k) (D 0 7) with
  | inl q => exact Nat.le_succ (D 0 2)
  | inr s => exact Nat.le_refl (D 0 2 + 1)
theorem runs_take {F : Nat → Nat} {code : Nat → Int32} {L : List Int32} (h : ∀ j, j < L.length → code j = L.getD j 0) : ∀ k, k ≤ L.length → runs F code k = rnL F (L.take k) 0 := by
  intro k
  induction k with
  | zero => intro _; rfl
  | succ k ih =>
    intro hk
    have e1 : L.take (k + 1) = L.take k ++ [L.getD k 0] := by
      rw [List.take_add_one, List.getD_eq_getElem?_getD, List.getElem?_eq_getElem (by omega)]; rfl
    rw [runs_s, ih (by omega), e1, rnL_app, h k (by omega)]
    rfl
theorem rul_new {D : hD} {r : Nat} {σ : hv_S} {s : hHs} (h2 : σ.1 r 2 = nI (D 0 3)) (h3 : σ.1 r 3 = nI (D 0 4)) (h4 : σ.1 r 4 = nI (D 0 5)) (h5 : σ.1 r 5 = nI (D 0 6)) (h1 : σ.1 r 1 = nI s.2.1.length) (hc : ∀ j, j < s.2.1.length → σ.1 (r + 1) j = s.2.1.getD j 0) {n : Nat} (hn : n ≤ 100) (hok : hsOk 6 n s) : rul D (fun a b m x y => s.2.2 (fct a b m x y)) r σ := by
  obtain ⟨-, g6, g7, g8⟩ := hok
  have hmem : ∀ k, k < s.2.1.length → wfI (σ.1 (r + 1) k) := fun k hk => by
    rw [hc k hk, List.getD_eq_getElem?_getD, List.getElem?_eq_getElem hk]
    exact g7 _ (List.getElem_mem hk)
  refine ⟨h2, h3, h4, h5, s.2.1.length, by omega, h1, fun k hk q => (hmem k hk).1 q, fun k hk q => (hmem k hk).2 q, fun a b m x y _ _ _ _ _ => ⟨fun k hk => ?_, ?_⟩⟩
  · rw [runs_take hc k hk]; exact (g8 _).2.2 k hk
  · rw [runs_take hc _ (Nat.le_refl _), List.take_length]; exact (g8 _).2.1
theorem ur_2 (σ : hv_S) (k j v k' j' : Nat) : (hv_ur σ k j v).2.2 k' j' = if k' = k ∧ j' = j then v else σ.2.2 k' j' := rfl
section HA
variable {l : Launch} {e : hv_Ev} {σ : hv_S} {D : hD} {hb : hB} {It : hT} {T : Nat → Nat} {n r : Nat}
theorem x_fault {Φ : Int32 → hv_S → Prop} (hr : hv_isR r) (h95 : σ.2.2 9 5 = r) (hT : txI T n σ) (h91 : σ.1 9 1 = nI n)
    (k : match rdH T n with | .inl q => ∀ σ', pxF σ r n q σ' → Φ (nI q) σ' | .inr s => ∀ σ', pxI σ r n n s.1 s.2.1 σ' → Φ (-1) σ') : hv_CI l (hv_e1 e) 18 m_X1_fault [.ref 9] σ Φ := by
  have hn := hT.1
  have r9 : r ≠ 9 ∧ r + 1 ≠ 9 := by rcases hr with rfl | rfl <;> decide
  refine B_X1_fault ?_
  rw [h95]
  refine ⟨hr, B_X4_clear r hr ?_⟩
  suffices ∀ f p b x1 (s : hHs) σ', x1 + f = 7 → b + f = 6 → p ≤ n → hsOk b p s → pxI σ r n p s.1 s.2.1 σ' → (match faP T n f p s with | .inl q => ∀ σ', pxF σ r n q σ' → Φ (nI q) σ' | .inr s => ∀ σ', pxI σ r n n s.1 s.2.1 σ' → Φ (-1) σ') → L_X1_fault_14 l e Φ (nI x1) σ' by
    refine this 6 0 0 1 ((999, 1, 2, 0), [], fun _ => false) _ rfl rfl (Nat.zero_le n) ⟨⟨by decide, by decide, by decide, by decide, by decide⟩, Nat.zero_le 0, fun x hx => absurd hx (by simp), fun F => ⟨(Nat.zero_lt_one : (0 : Nat) < 1), ⟨fun q => Bool.noConfusion q, fun q => absurd rfl q⟩, fun k hk => ?_⟩⟩ ⟨⟨rfl, fun k k9 kr kr1 j => ?_, ?_, ?_⟩, ⟨?_, ?_, ?_, ?_⟩, ?_, fun j hj => absurd hj (Nat.not_lt_zero j)⟩ k
    · have : k = 0 := Nat.le_zero.mp hk
      subst this
      exact (by decide : (0 : Nat) < 65536)
    · simp only [ui_1, kr, k9, false_and, if_false]
    · simp only [ui_1, fun z => r9.1 (Eq.symm z), show ¬ 9 = r from fun z => r9.1 z.symm, false_and, if_false]; exact h91
    · simp only [ui_1, show ¬ 9 = r from fun z => r9.1 z.symm, false_and, if_false]; rfl
    · simp only [ui_1]; rfl
    · simp only [ui_1]; rfl
    · simp only [ui_1]; rfl
    · simp only [ui_1]; rfl
    · simp only [ui_1]; rfl
  intro f
  induction f with
  | zero =>
    intro p b x1 s σ' hx hb hp hok h k
    have e7 : x1 = 7 := by omega
    subst e7
    refine B_X1_fault_14 _ ⟨fun _ => ?_, fun q => absurd (nI_lt (a := 6) (b := 7) (by decide) (by decide)) q⟩
    rw [h.1.2.2.2]
    exact k σ' h.1
  | succ f ih =>
    intro p b x1 s σ' hx hb hp hok h k
    have e1 : faP T n (f + 1) p s = (match clP T n p s with | .inl q => .inl q | .inr b => if b.1 = n then .inr b.2 else if f = 0 ∨ seeN T n b.1 ≠ 59 then .inl b.1 else faP T n f (b.1 + 1) b.2) := rfl
    rw [e1] at k
    have hc := cl_ok (T := T) hp (by omega) hok
    refine B_X1_fault_14 _ ⟨fun q => absurd ((nI_ltI (a := 6) (by decide) (by omega)).mp q) (by omega), fun _ => x_clause (v := s.2.2) hr h95 hT h hp hok.2.1 ?_⟩
    cases hres : clP T n p (s.1, s.2.1, s.2.2) with
    | inl q =>
      rw [show clP T n p s = clP T n p (s.1, s.2.1, s.2.2) from rfl, hres] at k
      refine fun σ2 h2 => ⟨fun z => absurd rfl z, fun _ => ?_⟩
      rw [h2.2.2.2]; exact k σ2 h2
    | inr a =>
      rw [show clP T n p s = clP T n p (s.1, s.2.1, s.2.2) from rfl, hres] at k hc
      obtain ⟨a1, a2, a3⟩ := hc
      have k : (match (if a.1 = n then (.inr a.2 : Nat ⊕ hHs) else if f = 0 ∨ seeN T n a.1 ≠ 59 then .inl a.1 else faP T n f (a.1 + 1) a.2) with | .inl q => ∀ σ', pxF σ r n q σ' → Φ (nI q) σ' | .inr s => ∀ σ', pxI σ r n n s.1 s.2.1 σ' → Φ (-1) σ') := k
      refine fun σ2 h2 => ⟨fun _ => ?_, fun z => absurd z (by decide)⟩
      have h2 : pxI σ r n a.1 a.2.1 a.2.2.1 σ2 := h2
      rw [h2.1.2.2.2, h2.1.2.2.1, ne_eq, nI_eq (by omega) (by omega)]
      refine ⟨fun z => ?_, fun z => ?_⟩
      · rw [if_neg z] at k
        have c6 : nI x1 = 6 ↔ f = 0 := by
          have := nI_eq (a := x1) (b := 6) (by omega) (by decide)
          exact this.trans (by omega)
        rw [c6]
        refine ⟨fun z2 => ?_, fun z2 => x_seen hr hT h2.1 a2 ⟨fun z3 => ?_, fun z3 => ?_⟩⟩
        · rw [if_pos (Or.inl z2)] at k; exact k σ2 h2.1
        · have z4 : seeN T n a.1 = 59 := (seI_eq (k := 59) (by decide)).mp z3
          rw [if_neg (fun c => c.elim z2 (fun c => c z4))] at k
          rw [h2.1.2.2.2, nI_1, nI_1]
          exact ih (a.1 + 1) (b + 1) (x1 + 1) a.2 _ (by omega) (by omega) (see_lt z4 (by decide)) ⟨a3.1, Nat.le_succ_of_le a3.2.1, a3.2.2⟩ (h2.at hr (a.1 + 1)) k
        · have z4 : seeN T n a.1 ≠ 59 := fun c => z3 ((seI_eq (k := 59) (by decide)).mpr c)
          rw [if_pos (Or.inr z4)] at k
          rw [h2.1.2.2.2]; exact k σ2 h2.1
      · rw [if_pos z] at k
        rw [z] at h2
        exact k σ2 h2
theorem x_hall {Φ : Int32 → hv_S → Prop} (hR : RX D hb It σ) (hW : hWF D) (k : ∀ σ', RX (hlR D hb).2.1 (hlR D hb).2.2 It σ' → Φ (hlR D hb).1 σ') : hv_CI l (hv_e1 e) 19 m_X9_hall [.ref 0] σ Φ := by
  obtain ⟨r, r2, hrr, h95, h153⟩ : ∃ r r2, ((r = 11 ∧ r2 = 13) ∨ (r = 13 ∧ r2 = 11)) ∧ σ.2.2 9 5 = r ∧ σ.2.2 15 3 = r2 := by
    rcases hR.2.2.1.1 with ⟨h1, h2⟩ | ⟨h1, h2⟩
    · exact ⟨11, 13, Or.inl ⟨rfl, rfl⟩, h1, h2⟩
    · exact ⟨13, 11, Or.inr ⟨rfl, rfl⟩, h1, h2⟩
  have hr : hv_isR r := by rcases hrr with ⟨q, -⟩ | ⟨q, -⟩; exact Or.inl q; exact Or.inr q
  have hr2 : hv_isR r2 := by rcases hrr with ⟨-, q⟩ | ⟨-, q⟩; exact Or.inr q; exact Or.inl q
  have hn : D 0 7 ≤ 100 := hW.2.2.2.2.2.2.2.2.1
  have hT : txI (fun k => D 8 k) (D 0 7) σ := ⟨hn, fun k hk => ⟨hR.2.1.2 k hk, hW.2.2.2.2.2.2.2.2.2.2.2.1 k hk⟩⟩
  have hrd := rd_ok (T := fun k => D 8 k) (n := D 0 7)
  unfold hlR at k
  refine B_X9_hall (x_fault hr h95 hT hR.2.1.1 ?_)
  cases hres : rdH (fun k => D 8 k) (D 0 7) with
  | inl q =>
    rw [hres] at k hrd
    have hrd : q ≤ D 0 7 := hrd
    refine fun σ1 h1 => ⟨fun z => absurd z (nI_ne_m1 (by omega)), fun _ => ?_⟩
    obtain ⟨g1, g2, g3, g4⟩ := h1
    have ho : ∀ p, p ≠ 9 → p ≠ r → p ≠ r + 1 → ∀ j, (hv_ui σ1 9 1 0).1 p j = σ.1 p j := fun p p9 pr pr1 j => by rw [ui_1, if_neg (fun z => p9 z.1)]; exact g2 p p9 pr pr1 j
    have eI : ∀ ks : List Nat, (∀ p, p ∈ ks → p ≠ 9 ∧ p ≠ 11 ∧ p ≠ 12 ∧ p ≠ 13 ∧ p ≠ 14) → eqI ks σ (hv_ui σ1 9 1 0) := fun ks hks p hp j => by
      obtain ⟨a1, a2, a3, a4, a5⟩ := hks p hp
      rcases hrr with ⟨rfl, -⟩ | ⟨rfl, -⟩
      · exact ho p a1 a2 a3 j
      · exact ho p a1 a4 a5 j
    have k : ∀ σ', RX (emD D) hb It σ' → Φ (-10 - nI q) σ' := k
    refine k _ ⟨rxH_of (D := emD D) hR.1 (eI _ (by decide)), ⟨?_, fun i hi => absurd hi (Nat.not_lt_zero i)⟩, ⟨?_, ?_, ?_, fun m a hm ha => ?_⟩, rxA_of (D := emD D) hR.2.2.2.1 (eI _ (by decide)), rxP_of (D := emD D) hR.2.2.2.2 (eI _ (by decide)) (fun j => by show σ1.2.1 42 j = _; rw [g1])⟩
    · rw [ui_1, if_pos ⟨rfl, rfl⟩]; rfl
    · have := hR.2.2.1.1
      unfold rxR at this ⊢
      show (σ1.2.2 9 5 = 11 ∧ σ1.2.2 15 3 = 13) ∨ (σ1.2.2 9 5 = 13 ∧ σ1.2.2 15 3 = 11)
      rw [g1]; exact this
    · rw [eI [15] (by decide) 15 (by simp)]; exact hR.2.2.1.2.1
    · show rul (emD D) hb (σ1.2.2 15 3) _
      rw [g1, h153]
      have := hR.2.2.1.2.2.1
      rw [h153] at this
      refine rul_of (D := emD D) this (fun p hp j => ?_)
      simp at hp
      rcases hrr with ⟨rfl, rfl⟩ | ⟨rfl, rfl⟩
      · rcases hp with rfl | rfl <;> exact ho _ (by decide) (by decide) (by decide) j
      · rcases hp with rfl | rfl <;> exact ho _ (by decide) (by decide) (by decide) j
    · rw [eI [16] (by decide) 16 (by simp)]; exact hR.2.2.1.2.2.2 m a hm ha
  | inr s =>
    rw [hres] at k hrd
    have hrd : hsOk 6 (D 0 7) s := hrd
    refine fun σ1 h1 => ⟨fun _ => ?_, fun z => absurd rfl z⟩
    have k : ∀ σ', RX (nwD D s.1) (fun a b m x y => s.2.2 (fct a b m x y)) It σ' → Φ (nI (D 0 2 + 1)) σ' := k
    obtain ⟨⟨g1, g2, g3, g4⟩, ⟨g5, g6, g7, g8⟩, g9, g10⟩ := h1
    have g22 : σ1.2.2 = σ.2.2 := by rw [g1]
    rw [g22, h95]
    refine ⟨hr, B_X3_adopt r ?_⟩
    show hv_isR (σ1.2.2 15 3) ∧ _
    have e153 : (hv_ui σ1 9 1 0).2.2 15 3 = r2 := by show σ1.2.2 15 3 = r2; rw [g22]; exact h153
    rw [e153, g22, h153]
    refine ⟨hr2, ?_⟩
    obtain ⟨σ2, hσ2⟩ : ∃ σ2, σ2 = hv_ui (hv_ur (hv_ui σ1 9 1 0) 15 3 r) 15 4 ((hv_ui σ1 9 1 0).1 15 4 + 1) := ⟨_, rfl⟩
    rw [← hσ2]
    have r15 : r ≠ 15 ∧ r + 1 ≠ 15 ∧ r ≠ 9 ∧ r + 1 ≠ 9 := by rcases hr with rfl | rfl <;> decide
    have q1 : ∀ p, p ≠ 9 → p ≠ 15 → ∀ j, σ2.1 p j = σ1.1 p j := fun p p9 p15 j => by
      rw [hσ2]; rw [ui_1, if_neg (fun z => p15 z.1)]; show (hv_ui σ1 9 1 0).1 p j = _
      rw [ui_1, if_neg (fun z => p9 z.1)]
    have q2 : σ2.2.2 15 3 = r := by rw [hσ2]; show (hv_ur (hv_ui σ1 9 1 0) 15 3 r).2.2 15 3 = r; rw [ur_2, if_pos ⟨rfl, rfl⟩]
    have q3 : σ2.1 9 1 = 0 := by rw [hσ2]; rfl
    have q4 : σ2.1 15 4 = nI (D 0 2 + 1) := by
      rw [hσ2]; show σ1.1 15 4 + 1 = _
      rw [g2 15 (by decide) (fun z => r15.1 z.symm) (fun z => r15.2.1 z.symm), hR.2.2.1.2.1, nI_1]
    have q5 : ∀ p, p ≠ 9 → p ≠ 15 → p ≠ r → p ≠ r + 1 → ∀ j, σ2.1 p j = σ.1 p j := fun p p9 p15 pr pr1 j => by rw [q1 p p9 p15, g2 p p9 pr pr1]
    have q6 : σ2.2.1 = σ.2.1 := by rw [hσ2]; show σ1.2.1 = _; rw [g1]
    have hru : rul (nwD D s.1) (fun a b m x y => s.2.2 (fct a b m x y)) r σ2 := by
      refine rul_new (n := D 0 7) ?_ ?_ ?_ ?_ ?_ (fun j hj => ?_) hn hrd
      · rw [q1 r r15.2.2.1 r15.1]; exact g5
      · rw [q1 r r15.2.2.1 r15.1]; exact g6
      · rw [q1 r r15.2.2.1 r15.1]; exact g7
      · rw [q1 r r15.2.2.1 r15.1]; exact g8
      · rw [q1 r r15.2.2.1 r15.1]; exact g9
      · rw [q1 (r + 1) r15.2.2.2 r15.2.1]; exact g10 j hj
    suffices ∀ d m σ', m + d = 3 → LE σ2 σ' → (∀ m', m' < m → ∀ a, a < 8 → σ'.1 16 (8 * m' + a) = nI (msk (fun b => bar (nwD D s.1) (fun a b m x y => s.2.2 (fct a b m x y)) m' a b) 8)) → L_X3_adopt_22 l e r (fun v6 s5 => Φ (s5.1 15 4) (hv_ur s5 9 5 v6)) r2 (nI m) σ' by
      exact this 3 0 σ2 rfl ⟨rfl, fun _ _ _ _ => rfl⟩ (fun m' hm' => absurd hm' (Nat.not_lt_zero m'))
    intro d
    induction d with
    | zero =>
      intro m σ' hm hE hM
      have hm3 : m = 3 := by omega
      subst hm3
      refine B_X3_adopt_22 r _ _ ⟨fun _ => ?_, fun z => absurd (nI_le (a := 3) (b := 3) (by decide) (by decide)) z⟩
      show Φ (σ'.1 15 4) (hv_ur σ' 9 5 r2)
      rw [hE.2 15 (by decide) (by decide), q4]
      have eE : ∀ p, p ≠ 9 → p ≠ 15 → p ≠ 16 → p ≠ 17 → p ≠ 11 → p ≠ 12 → p ≠ 13 → p ≠ 14 → ∀ j, (hv_ur σ' 9 5 r2).1 p j = σ.1 p j := fun p a1 a2 a3 a4 a5 a6 a7 a8 j => by
        show σ'.1 p j = _
        rw [hE.2 p a3 a4]
        rcases hrr with ⟨rfl, -⟩ | ⟨rfl, -⟩
        · exact q5 p a1 a2 a5 a6 j
        · exact q5 p a1 a2 a7 a8 j
      have eI : ∀ ks : List Nat, (∀ p, p ∈ ks → p ≠ 9 ∧ p ≠ 15 ∧ p ≠ 16 ∧ p ≠ 17 ∧ p ≠ 11 ∧ p ≠ 12 ∧ p ≠ 13 ∧ p ≠ 14) → eqI ks σ (hv_ur σ' 9 5 r2) := fun ks hks p hp j => by
        obtain ⟨a1, a2, a3, a4, a5, a6, a7, a8⟩ := hks p hp
        exact eE p a1 a2 a3 a4 a5 a6 a7 a8 j
      have e22 : σ'.2 = σ2.2 := hE.1
      refine k _ ⟨rxH_of (D := nwD D s.1) hR.1 (eI _ (by decide)), ⟨?_, fun i hi => absurd hi (Nat.not_lt_zero i)⟩, ⟨?_, ?_, ?_, fun m a hm ha => hM m (by omega) a ha⟩, rxA_of (D := nwD D s.1) hR.2.2.2.1 (eI _ (by decide)), rxP_of (D := nwD D s.1) hR.2.2.2.2 (eI _ (by decide)) (fun j => ?_)⟩
      · show σ'.1 9 1 = _
        rw [hE.2 9 (by decide) (by decide), q3]; rfl
      · have w1 : (hv_ur σ' 9 5 r2).2.2 9 5 = r2 := by rw [ur_2, if_pos ⟨rfl, rfl⟩]
        have w2 : (hv_ur σ' 9 5 r2).2.2 15 3 = r := by rw [ur_2, if_neg (by decide), e22, q2]
        unfold rxR
        rw [w1, w2]
        rcases hrr with ⟨rfl, rfl⟩ | ⟨rfl, rfl⟩
        · exact Or.inr ⟨rfl, rfl⟩
        · exact Or.inl ⟨rfl, rfl⟩
      · show σ'.1 15 4 = _
        rw [hE.2 15 (by decide) (by decide), q4]; rfl
      · have w2 : (hv_ur σ' 9 5 r2).2.2 15 3 = r := by rw [ur_2, if_neg (by decide), e22, q2]
        rw [w2]
        exact rul_le hr hru hE.2
      · show σ'.2.1 42 j = _
        rw [e22, q6]
    | succ d ih =>
      intro m σ' hm hE hM
      have e22 : σ'.2 = σ2.2 := hE.1
      have e153' : σ'.2.2 15 3 = r := by rw [e22, q2]
      refine B_X3_adopt_22 r _ _ ⟨fun q => absurd q (nI_ge (a := m) (b := 3) (by omega) (by decide)), fun _ => ?_⟩
      rw [nI_1]
      refine x_learn (D := nwD D s.1) (hb := fun a b m x y => s.2.2 (fct a b m x y)) (fun c hc => ⟨?_, (hW.2.2.2.2.2.2.2.2.2.1 c hc).2.2.2.1⟩) (by rw [e153']; exact hr) (by rw [e153']; exact rul_le hr hru hE.2) (by omega) (fun σ3 hE3 hM3 hO3 => ?_)
      · rw [hE.2 3 (by decide) (by decide)]
        have := (hR.1.2.2.2 c hc).1
        rw [q5 3 (by decide) (by decide) (by rcases hr with rfl | rfl <;> decide) (by rcases hr with rfl | rfl <;> decide)]
        exact this
      · refine ih (m + 1) σ3 (by omega) ⟨hE3.1.trans hE.1, fun p h16 h17 j => (hE3.2 p h16 h17 j).trans (hE.2 p h16 h17 j)⟩ (fun m' hm' a ha => ?_)
        by_cases c : m' = m
        · subst c; exact hM3 a ha
        · rw [hO3 _ (by omega)]; exact hM m' (by omega) a ha
end HA
