-- THE REFERENCE: bars, the hall, feeding
/-- isBar's own scratch -/
def BE (σ σ' : hv_S) : Prop := σ'.2 = σ.2 ∧ (∀ k, (k < 60 ∨ 60 < k ∧ k < 70 ∨ 73 < k) → ∀ j, σ'.1 k j = σ.1 k j) ∧ ∀ j, (j < 14 ∨ 18 < j ∧ j < 24 ∨ 24 < j ∧ j < 27 ∨ 33 < j) → σ'.1 60 j = σ.1 60 j
theorem BE.refl (σ : hv_S) : BE σ σ := ⟨rfl, fun _ _ _ => rfl, fun _ _ => rfl⟩
theorem BE.trans {σ σ' σ'' : hv_S} (h : BE σ σ') (h2 : BE σ' σ'') : BE σ σ'' := ⟨h2.1.trans h.1, fun k hk j => (h2.2.1 k hk j).trans (h.2.1 k hk j), fun j hj => (h2.2.2 j hj).trans (h.2.2 j hj)⟩
theorem BE.me {σ σ' : hv_S} (h : BE σ σ') : ME σ σ' := ⟨fun k hk j => h.2.1 k (by omega) j, h.2.1 69 (by decide) 0, fun j hj => h.2.2 j (by omega), fun j => by rw [h.1]⟩
theorem BE.u7 {σ : hv_S} {k j : Nat} {v : Int32} (hk : k = 70 ∨ k = 71) : BE σ (hv_ui σ k j v) := ⟨rfl, fun k' h j' => by rw [ui_1, if_neg (fun z => by omega)], fun j' h => by rw [ui_1, if_neg (fun z => by omega)]⟩
theorem gaI.be {σ σ' : hv_S} {q : Nat} (h : gaI σ q σ') : BE σ σ' := ⟨h.1, fun k hk j => h.2.1 k (by omega) (by omega) (by omega) j, fun j hj => h.2.2.1 j (by omega)⟩
section IB
variable {l : Launch} {e : hv_Ev} {σ : hv_S} {D : hD} {hb : hB} {It : hT}
theorem idx71 (m a b : Nat) : 64 * nI m + 8 * nI a + nI b = nI (64 * m + 8 * a + b) := by simp only [lI, pk_mul, nI_add]
theorem y_isBar {Φ : Int32 → hv_S → Prop} {m a b : Nat} (hR : RM D hb It σ) (hW : hWF D) (hm : m < 3) (ha : a < D 0 0) (hb' : b < D 0 0) (k : ∀ σ', BE σ σ' → RM D hb It σ' → Φ (bI (bar D hb m a b)) σ') : hv_CI l (hv_e2 e) 7 m_X10_isBar [.ref 60, .int (nI a), .int (nI b), .int (nI m)] σ Φ := by
  have hn := hW.1
  have ans : ∀ σ', BE σ σ' → RM D hb It σ' → σ'.1 71 (64 * m + 8 * a + b) = bI (bar D hb m a b) → (vp_in (((64 * nI m) + (8 * nI a)) + nI b) 192 ∧ (((σ'.1 71 ((((64 * nI m) + (8 * nI a)) + nI b).toNatClampNeg)) = 0 ∨ (σ'.1 71 ((((64 * nI m) + (8 * nI a)) + nI b).toNatClampNeg)) = 1) ∧ Φ (σ'.1 71 ((((64 * nI m) + (8 * nI a)) + nI b).toNatClampNeg)) σ')) := fun σ' hE hR' h71 => by
    rw [idx71, nI_clamp (by omega), h71]
    exact ⟨vp_in_nI (by omega) (by decide), by cases bar D hb m a b <;> decide, k σ' hE hR'⟩
  refine B_X10_isBar _ _ _ ⟨fun q => ?_, fun q => ?_⟩
  · rcases hR.2.2.2.1.2 with c | ⟨c, h71⟩
    · exact absurd c q
    · exact ans σ (BE.refl σ) hR (h71 m a b hm ha hb')
  · have hE0 : BE σ (hv_ui σ 60 24 1) := ⟨rfl, fun k' h j' => by rw [ui_1, if_neg (fun z => by omega)], fun j' h => by rw [ui_1, if_neg (fun z => by omega)]⟩
    suffices ∀ d i σ', i + d = 192 → BE σ σ' → σ'.1 60 24 = 1 → (∀ j, j < 5 → ∃ f, f < 1000 ∧ σ'.1 70 j = nI f) → (∀ j, j < i → j / 8 % 8 < D 0 0 → j % 8 < D 0 0 → σ'.1 71 j = bI (bar D hb (j / 64) (j / 8 % 8) (j % 8))) → L_X10_isBar_15 l e Φ (nI a) (nI b) (nI m) (nI i) σ' by
      refine this 192 0 _ rfl hE0 (by rw [ui_1, if_pos ⟨rfl, rfl⟩]) (fun j hj => ?_) (fun j hj => absurd hj (Nat.not_lt_zero j))
      exact hR.2.2.2.1.1 j hj
    intro d
    induction d with
    | zero =>
      intro i σ' hi hE h24 h70 h71
      have h192 : i = 192 := by omega
      subst h192
      refine B_X10_isBar_15 _ _ _ _ ⟨fun _ => ?_, fun q => absurd (nI_le (a := 192) (b := 192) (by decide) (by decide)) q⟩
      have hR' : RM D hb It σ' := hR.of hE.me ⟨h70, Or.inr ⟨h24, fun m' a' b' hm' ha' hb'' => by
        have := h71 (64 * m' + 8 * a' + b') (by omega)
        rw [show (64 * m' + 8 * a' + b') / 8 % 8 = a' by omega, show (64 * m' + 8 * a' + b') % 8 = b' by omega, show (64 * m' + 8 * a' + b') / 64 = m' by omega] at this
        exact this ha' hb''⟩⟩
      refine ans σ' hE hR' ?_
      have := h71 (64 * m + 8 * a + b) (by omega)
      rw [show (64 * m + 8 * a + b) / 8 % 8 = a by omega, show (64 * m + 8 * a + b) % 8 = b by omega, show (64 * m + 8 * a + b) / 64 = m by omega] at this
      exact this ha hb'
    | succ d ih =>
      intro i σ' hi hE h24 h70 h71
      have e8 : nI i / 8 = nI (i / 8) := pk_div (d := 8) (by omega) (by decide) (by decide)
      have e64 : nI i / 64 = nI (i / 64) := pk_div (d := 64) (by omega) (by decide) (by decide)
      have r8 : nI i - nI (i / 8) * 8 = nI (i % 8) := by rw [← e8]; exact pk_rem (d := 8) (by omega) (by decide) (by decide)
      have r88 : nI (i / 8) - nI (i / 8) / 8 * 8 = nI (i / 8 % 8) := pk_rem (d := 8) (by omega) (by decide) (by decide)
      refine B_X10_isBar_15 _ _ _ _ ⟨fun q => absurd q (nI_ge (a := i) (b := 192) (by omega) (by decide)), fun _ => ?_⟩
      rw [e8, e64, r8, r88]
      have c1 : 8 * nI (i / 64) + nI (i % 8) = nI (8 * (i / 64) + i % 8) := cellM _ _
      have c2 : 8 * nI (i / 64) + nI (i / 8 % 8) = nI (8 * (i / 64) + i / 8 % 8) := cellM _ _
      rw [c1, c2, nI_clamp (by omega), nI_clamp (by omega), nI_clamp (by omega)]
      obtain ⟨s1, hs1, es1⟩ := hR.1.2.2.2.1 (8 * (i / 64) + i % 8) (by omega)
      obtain ⟨s2, hs2, es2⟩ := hR.1.2.2.2.1 (8 * (i / 64) + i / 8 % 8) (by omega)
      have f1 : σ'.1 66 (8 * (i / 64) + i % 8) = nI s1 := by rw [hE.2.1 66 (by decide)]; exact es1
      have f2 : σ'.1 66 (8 * (i / 64) + i / 8 % 8) = nI s2 := by rw [hE.2.1 66 (by decide)]; exact es2
      rw [f1, f2]
      have h9 : σ'.1 60 9 = nI (D 0 2) := by rw [hE.2.2 9 (by decide)]; exact hR.2.2.1.1
      have l2 : D 0 2 ≤ 100000 := hW.2.2.1
      obtain ⟨σ2, hσ2⟩ : ∃ σ2, σ2 = hv_ui (hv_ui (hv_ui (hv_ui (hv_ui σ' 70 0 (nI (i / 8 % 8))) 70 1 (nI (i % 8))) 70 2 (nI (i / 64))) 70 3 (nI s1)) 70 4 (nI s2) := ⟨_, rfl⟩
      rw [h9, ← hσ2]
      have hE2 : BE σ' σ2 := by
        rw [hσ2]
        exact (BE.u7 (by decide)).trans ((BE.u7 (by decide)).trans ((BE.u7 (by decide)).trans ((BE.u7 (by decide)).trans (BE.u7 (by decide)))))
      have g70 : ∀ j, j < 5 → σ2.1 70 j = nI (fct (i / 8 % 8) (i % 8) (i / 64) s1 s2 j) ∧ fct (i / 8 % 8) (i % 8) (i / 64) s1 s2 j < 1000 := fun j hj => by
        rw [hσ2]
        rcases (show j = 0 ∨ j = 1 ∨ j = 2 ∨ j = 3 ∨ j = 4 by omega) with rfl | rfl | rfl | rfl | rfl
        · exact ⟨by simp only [ui_1]; rfl, by show i / 8 % 8 < 1000; omega⟩
        · exact ⟨by simp only [ui_1]; rfl, by show i % 8 < 1000; omega⟩
        · exact ⟨by simp only [ui_1]; rfl, by show i / 64 < 1000; omega⟩
        · exact ⟨by simp only [ui_1]; rfl, by show s1 < 1000; omega⟩
        · exact ⟨by simp only [ui_1]; rfl, by show s2 < 1000; omega⟩
      have k71 : ∀ j, σ2.1 71 j = σ'.1 71 j := fun j => by rw [hσ2]; simp only [ui_1, show ¬ (71 = 70) by decide, false_and, if_false]
      have k24 : σ2.1 60 24 = 1 := by rw [hσ2]; simp only [ui_1, show ¬ (60 = 70) by decide, false_and, if_false]; exact h24
      have v5 : ∀ j, j < 5 → vp_in (nI j) 5 := fun j hj => vp_in_nI hj (by decide)
      -- one more told
      have put : ∀ (σ3 : hv_S) (w : Bool), BE σ2 σ3 → σ3.1 60 24 = 1 → (∀ j, σ3.1 70 j = σ2.1 70 j) → (∀ j, σ3.1 71 j = σ2.1 71 j) → (i / 8 % 8 < D 0 0 → i % 8 < D 0 0 → w = bar D hb (i / 64) (i / 8 % 8) (i % 8)) → L_X10_isBar_15 l e Φ (nI a) (nI b) (nI m) (nI i + 1) (hv_ui σ3 71 i (bI w)) := fun σ3 w hE3 k24' k70' k71' hw => by
        rw [nI_1]
        refine ih (i + 1) _ (by omega) (((hE.trans hE2).trans hE3).trans (BE.u7 (by decide))) ?_ (fun j hj => ?_) (fun j hj h1 h2 => ?_)
        · rw [ui_1, if_neg (fun z => absurd z.1 (by decide))]; exact k24'
        · rw [ui_1, if_neg (fun z => absurd z.1 (by decide)), k70']
          obtain ⟨w1, w2⟩ := g70 j hj
          exact ⟨_, w2, w1⟩
        · rw [ui_1]
          by_cases c : j = i
          · subst c; rw [if_pos ⟨rfl, rfl⟩, hw h1 h2]
          · rw [if_neg (fun z => c z.2), k71', k71]; exact h71 j (by omega) h1 h2
      have vi : vp_in (nI i) 192 := vp_in_nI (by omega) (by decide)
      refine ⟨v5 0 (by decide), v5 1 (by decide), v5 2 (by decide), vp_in_nI (by omega) (by decide), v5 3 (by decide), vp_in_nI (by omega) (by decide), v5 4 (by decide), fun q => ⟨vi, ?_⟩, fun q => ?_⟩
      · have q0 : D 0 2 = 0 := by have := (nI_leI (b := 0) (by omega) (by decide)).mp q; omega
        rcases hR.2.2.1.2.2.2.2.2 with ⟨-, c2⟩ | ⟨c1, -⟩
        · exact put σ2 false (BE.refl σ2) k24 (fun _ => rfl) (fun _ => rfl) (fun _ _ => (c2 _ _ _ _ _).symm)
        · omega
      · rcases hR.2.2.1.2.2.2.2.2 with ⟨c1, -⟩ | ⟨c1, T, n, s, d1, d2, d3, d4, d5, d6⟩
        · exact absurd (by rw [c1]; decide) q
        · have hEE := hE.trans hE2
          refine y_goes (w := 0) (T := T) (n := n) (F := fct (i / 8 % 8) (i % 8) (i / 64) s1 s2) (by decide) ⟨d1, by decide, fun k' hk' => ⟨?_, d2 k' hk'⟩, g70⟩ (by rw [hEE.2.1 69 (by decide)]; exact d3) ?_
          · rw [hEE.2.1 68 (by decide), Nat.mul_zero, Nat.zero_add]; exact d4 k' hk'
          · rw [d5]
            refine fun σ3 h3 => ⟨fun z => absurd z (by decide), fun _ => ?_⟩
            have hE3 := h3.g.be
            have j24 : σ3.1 60 24 = 1 := by rw [h3.2.2.1 24 (by decide)]; exact k24
            have j70 : ∀ j, σ3.1 70 j = σ2.1 70 j := fun j => h3.2.1 70 (by decide) (by decide) (by decide) j
            have j71 : ∀ j, σ3.1 71 j = σ2.1 71 j := fun j => h3.2.1 71 (by decide) (by decide) (by decide) j
            have h18 : σ3.1 60 18 = bI (s.2.2 (fct (i / 8 % 8) (i % 8) (i / 64) s1 s2)) := h3.2.2.2.2.2.2.2.2
            have hw : i / 8 % 8 < D 0 0 → i % 8 < D 0 0 → s.2.2 (fct (i / 8 % 8) (i % 8) (i / 64) s1 s2) = bar D hb (i / 64) (i / 8 % 8) (i % 8) := fun h1 h2 => by
              have t1 := (hR.1.2.2.2.2 (i / 64) (i % 8) (by omega) h2).1
              have t2 := (hR.1.2.2.2.2 (i / 64) (i / 8 % 8) (by omega) h1).1
              have u1 := (hW.2.2.2.2.2.2.2.2.2.1 (8 * (i / 64) + i % 8) (by omega)).2.2.2.1
              have u2 := (hW.2.2.2.2.2.2.2.2.2.1 (8 * (i / 64) + i / 8 % 8) (by omega)).2.2.2.1
              rw [es1] at t1
              rw [es2] at t2
              have v1 := (nI_eq (by omega) (by omega)).mp t1
              have v2 := (nI_eq (by omega) (by omega)).mp t2
              unfold bar
              rw [d6, v1, v2]
            rw [h18, bI_0]
            refine ⟨fun z => ⟨vi, put σ3 false hE3 j24 j70 j71 (fun h1 h2 => by rw [← z]; exact hw h1 h2)⟩, fun z => ⟨vi, put σ3 true hE3 j24 j70 j71 (fun h1 h2 => by simp at z; rw [← z]; exact hw h1 h2)⟩⟩
theorem y_barred {Φ : Int32 → hv_S → Prop} (hR : RM D hb It σ) (hW : hWF D) (x y z : Int32) (k : ∀ σ', RM D hb It σ' → Φ (baA D hb x y z) σ') : hv_CI l (hv_e2 e) 8 m_X10_barred [.ref 60, .int x, .int y, .int z] σ Φ := by
  have hn := hW.1
  unfold baA at k
  refine B_X10_barred _ _ _ (y_isMember hR hW x (fun h => ⟨fun _ => ?_, fun q => absurd rfl q⟩) (fun a ha hx => ⟨fun q => absurd q (by decide), fun _ => y_isMember hR hW y (fun h => ⟨fun _ => ?_, fun q => absurd rfl q⟩) (fun b hb' hy => ⟨fun q => absurd q (by decide), fun _ => y_isMatter z (fun h => ⟨fun q => absurd rfl q, fun _ => ?_⟩) (fun m hm hz => ⟨fun _ => ⟨fun hne => ?_, fun heq => ?_⟩, fun q => absurd q (by decide)⟩)⟩)⟩))
  · rw [an1_out (by omega) h] at k; exact k σ hR
  · rw [hx, an1_in (by omega) ha, an1_out (by omega) h] at k; exact k σ hR
  · rw [hx, an1_in (by omega) ha, hy, an1_in (by omega) hb', an1_out (by omega) h] at k; exact k σ hR
  · subst hx
    subst hy
    subst hz
    rw [an1_in (by omega) ha, an1_in (by omega) hb', an1_in (by omega) hm, if_neg (fun c => hne (by rw [c]))] at k
    refine y_isBar hR hW hm ha hb' (fun σ1 hE1 hR1 => ?_)
    have := k σ1 hR1
    rw [bI_0]
    refine ⟨fun q => by rw [q] at this; exact this, fun q => ?_⟩
    simp at q
    rw [q] at this; exact this
  · subst hx
    subst hy
    subst hz
    have hab : a = b := (nI_eq (by omega) (by omega)).mp heq
    rw [an1_in (by omega) ha, an1_in (by omega) hb', an1_in (by omega) hm, if_pos hab] at k
    exact k σ hR
end IB
