-- THE FIRST WORLD: printed by wip/gen/p13.py
def lw_w1 (T : Nat → ClassId) (q : Nat) (qs : Nat → Nat) (f : Nat → Option Nat) : va_W := [(q, .inr (9, [.ref (qs 0), .ref (qs 8), .ref (qs 12), .ref (qs 17), .ref (qs 20), .ref (qs 26), .ref (qs 28), .ref (qs 30)])), (qs 0, .inr (2, [.ref (qs 1), .ref (qs 2), .ref (qs 3), .ref (qs 4), .ref (qs 5), .ref (qs 6), .ref (qs 7), .int 0, .int 0])), (qs 1, (.inl (T 0, 3, .inl (fun _ => 0)))), (qs 2, (.inl (T 0, 24, .inl (fun _ => 5)))), (qs 3, (.inl (T 0, 24, .inl (fun _ => 1)))), (qs 4, (.inl (T 0, 24, .inl (fun _ => 100)))), (qs 5, (.inl (T 0, 24, .inl (fun _ => -5)))), (qs 6, (.inl (T 0, 24, .inl (fun _ => -5)))), (qs 7, (.inl (T 0, 24, .inl (fun _ => 0)))), (qs 8, .inr (1, [.ref (qs 9), .int 0, .int 0, .int 0, .int 0, .ref (qs 10)])), (qs 9, (.inl (T 0, 100, .inl (fun _ => 0)))), (qs 11, (.inl (T 0, 100, .inl (fun _ => 0)))), (qs 10, .inr (4, [.ref (qs 11), .int 0, .int 999, .int 1, .int 2, .int 0])), (qs 12, .inr (3, [.ref (qs 0), .ref (qs 13), .ref (qs 14), .ref (qs 15), .int 0])), (qs 13, (.inl (T 0, 24, .inl (fun _ => 0)))), (qs 14, (.inl (T 0, 5, .inl (fun _ => 0)))), (qs 16, (.inl (T 0, 100, .inl (fun _ => 0)))), (qs 15, .inr (4, [.ref (qs 16), .int 0, .int 999, .int 1, .int 2, .int 0])), (qs 17, .inr (5, [.ref (qs 0), .ref (qs 12), .ref (qs 18), .ref (qs 19), .int 0, .int 0, .int 0, .int 0, .int 0, .int 0, .int 0])), (qs 18, (.inl (T 0, 64, .inl (fun _ => 0)))), (qs 19, (.inl (T 0, 8, .inl (fun _ => 0)))), (qs 20, .inr (6, [.ref (qs 0), .ref (qs 12), .ref (qs 17), .ref (qs 21), .ref (qs 22), .ref (qs 23), .long 1, .long 0, .ref (qs 24), .ref (qs 25)])), (qs 21, (.inl (T 0, 8, .inl (fun _ => 0)))), (qs 22, .inl (T 3, 8, .inr (.inr (.inr (.inr f))))), (qs 22 + 1 + 0, .inl (T 1, 9, .inr (.inl (fun _ => 0)))), (qs 22 + 1 + 1, .inl (T 1, 9, .inr (.inl (fun _ => 0)))), (qs 22 + 1 + 2, .inl (T 1, 9, .inr (.inl (fun _ => 0)))), (qs 22 + 1 + 3, .inl (T 1, 9, .inr (.inl (fun _ => 0)))), (qs 22 + 1 + 4, .inl (T 1, 9, .inr (.inl (fun _ => 0)))), (qs 22 + 1 + 5, .inl (T 1, 9, .inr (.inl (fun _ => 0)))), (qs 22 + 1 + 6, .inl (T 1, 9, .inr (.inl (fun _ => 0)))), (qs 22 + 1 + 7, .inl (T 1, 9, .inr (.inl (fun _ => 0)))), (qs 23, (.inl (T 1, 8, .inr (.inl (fun _ => 0))))), (qs 24, (.inl (T 1, 256, .inr (.inl (fun _ => 0))))), (qs 25, (.inl (T 1, 256, .inr (.inl (fun _ => 0))))), (qs 26, .inr (8, [.ref (qs 0), .ref (qs 12), .ref (qs 17), .ref (qs 20), .ref (qs 27)])), (qs 27, (.inl (T 1, 8, .inr (.inl (fun _ => 0))))), (qs 28, .inr (0, [.ref (qs 29), .int 0, .int 0, .int 0, .int 0])), (qs 29, (.inl (T 0, 20, .inl (fun _ => 0)))), (qs 30, .inr (7, [.ref (qs 31), .ref (qs 32), .ref (qs 33)])), (qs 31, (.inl (T 0, 6, .inl (fun _ => -1)))), (qs 32, (.inl (T 0, 6, .inl (fun _ => 0)))), (qs 33, (.inl (T 1, 360, .inr (.inl (fun _ => 0)))))]
def lw_w2 (T : Nat → ClassId) (q : Nat) (qs : Nat → Nat) : va_W := [(q, .inr (10, [.int 0, .int 0, .ref (qs 0), .ref (qs 1), .ref (qs 2), .ref (qs 3), .ref (qs 4), .ref (qs 5), .ref (qs 6), .int 0, .int 0, .ref (qs 7), .ref (qs 8), .ref (qs 9), .int 0, .int 0, .int 0, .int 0, .int 0, .int 999, .int 1, .int 2, .int 108, .ref (qs 10), .int 0, .ref (qs 11), .ref (qs 12), .int 0, .int 0, .int 0, .int 999, .int 1, .int 2, .int 108, .ref (qs 13), .int 0, .int 0, .int 0, .ref (qs 14), .ref (qs 15), .long 1, .int 0, .long 0, .long 1, .ref (qs 16), .ref (qs 17), .int 0, .ref (qs 18), .ref (qs 19), .ref (qs 20), .ref (qs 21), .ref (qs 22)])), (qs 0, (.inl (T 0, 24, .inl (fun _ => 0)))), (qs 1, (.inl (T 0, 24, .inl (fun _ => 0)))), (qs 2, (.inl (T 0, 24, .inl (fun _ => 0)))), (qs 3, (.inl (T 0, 24, .inl (fun _ => 0)))), (qs 4, (.inl (T 0, 24, .inl (fun _ => 0)))), (qs 5, (.inl (T 0, 24, .inl (fun _ => 0)))), (qs 6, (.inl (T 2, 24, .inl (fun _ => 0)))), (qs 7, (.inl (T 0, 200, .inl (fun _ => 0)))), (qs 8, (.inl (T 0, 2, .inl (fun _ => 0)))), (qs 9, (.inl (T 0, 5, .inl (fun _ => 0)))), (qs 10, (.inl (T 2, 192, .inl (fun _ => 0)))), (qs 11, (.inl (T 0, 101, .inl (fun _ => 0)))), (qs 12, (.inl (T 2, 101, .inl (fun _ => 0)))), (qs 13, (.inl (T 0, 64, .inl (fun _ => 0)))), (qs 14, (.inl (T 1, 8, .inr (.inl (fun _ => 0))))), (qs 15, (.inl (T 1, 72, .inr (.inl (fun _ => 0))))), (qs 16, (.inl (T 0, 24, .inl (fun _ => 0)))), (qs 17, (.inl (T 0, 8, .inl (fun _ => 0)))), (qs 18, (.inl (T 0, 20, .inl (fun _ => 0)))), (qs 19, (.inl (T 0, 6, .inl (upd (upd (upd (upd (upd (upd (fun _ => 0) 0 (-1)) 1 (-1)) 2 (-1)) 3 (-1)) 4 (-1)) 5 (-1))))), (qs 20, (.inl (T 0, 6, .inl (fun _ => 0)))), (qs 21, (.inl (T 1, 360, .inr (.inl (fun _ => 0))))), (qs 22, (.inl (T 1, 60, .inr (.inl (fun _ => 0)))))]
def lw_a1 (q : Nat) (qs : Nat → Nat) : List Nat := [q, qs 0, qs 1, qs 2, qs 3, qs 4, qs 5, qs 6, qs 7, qs 8, qs 9, qs 10, qs 11, qs 15, qs 16, qs 12, qs 13, qs 14, qs 17, qs 18, qs 19, qs 20, qs 21, qs 22, qs 22 + 1 + 0, qs 22 + 1 + 1, qs 22 + 1 + 2, qs 22 + 1 + 3, qs 22 + 1 + 4, qs 22 + 1 + 5, qs 22 + 1 + 6, qs 22 + 1 + 7, qs 23, qs 24, qs 25, qs 26, qs 27, qs 28, qs 29, qs 30, qs 31, qs 32, qs 33]
def lw_a2 (q : Nat) (qs : Nat → Nat) : List Nat := [q, qs 0, qs 1, qs 2, qs 3, qs 4, qs 5, qs 6, qs 7, qs 8, qs 9, qs 10, qs 11, qs 12, qs 13, qs 14, qs 15, qs 16, qs 17, qs 18, qs 19, qs 20, qs 21, qs 22]
def lw_al (a1 a2 : List Nat) (o : Nat → Nat) : Nat → Nat := fun k => if k < 60 then a1.getD k 0 else if k < 1000 then a2.getD (k - 60) 0 else o k
theorem lw_al_o {a1 a2 : List Nat} {o : Nat → Nat} {k : Nat} (h : 1000 ≤ k) : lw_al a1 a2 o k = o k := by unfold lw_al; rw [if_neg (by omega), if_neg (by omega)]
def lw_s1 : hv_S := (fun k => match k with
  | 3 => fun _ => 5
  | 4 => fun _ => 1
  | 5 => fun _ => 100
  | 6 => fun _ => -5
  | 7 => fun _ => -5
  | 11 => (fun j => match j with | 2 => 999 | 3 => 1 | 4 => 2 | _ => 0)
  | 13 => (fun j => match j with | 2 => 999 | 3 => 1 | 4 => 2 | _ => 0)
  | 40 => fun _ => -1
  | _ => fun _ => 0, fun k => match k with
  | 21 => (fun j => match j with | 6 => 1 | _ => 0)
  | _ => fun _ => 0, fun k => match k with
  | 9 => fun _ => 11
  | 15 => fun _ => 13
  | _ => fun _ => 0)
def lw_s2 : hv_S := (fun k => match k with
  | 60 => (fun j => match j with | 19 => 999 | 20 => 1 | 21 => 2 | 22 => 108 | 30 => 999 | 31 => 1 | 32 => 2 | 33 => 108 | _ => 0)
  | 80 => upd (upd (upd (upd (upd (upd (fun _ => 0) 0 (-1)) 1 (-1)) 2 (-1)) 3 (-1)) 4 (-1)) 5 (-1)
  | _ => fun _ => 0, fun k => match k with
  | 60 => (fun j => match j with | 40 => 1 | 43 => 1 | _ => 0)
  | _ => fun _ => 0, fun _ _ => 0)
def lw_i1 : List Nat := [0, 1, 2, 3, 4, 5, 6, 7, 8, 9, 10, 12, 11, 17, 16, 13, 14, 15, 18, 19, 20, 21, 22, 23, 24, 25, 26, 27, 28, 29, 30, 31, 32, 33, 34, 35, 36, 37, 38, 39, 40, 41, 42]
def lw_i2 : List Nat := [43, 44, 45, 46, 47, 48, 49, 50, 51, 52, 53, 54, 55, 56, 57, 58, 59, 60, 61, 62, 63, 64, 65, 66]
set_option maxRecDepth 20000 in
set_option maxHeartbeats 4000000 in
theorem lw_h1 (T : Nat → ClassId) (D : va_G) (A : Nat → Prop) (q q' : Nat) (qs qs' : Nat → Nat) (a2 : List Nat) (o : Nat → Nat) (f : Nat → Option Nat) (hf : f = fun i => if i < 8 then some (lw_al (lw_a1 q qs) a2 o (24 + i)) else none) : lw_i1.map (fun i => (lw_w1 T q qs f ++ lw_w2 T q' qs')[i]?) = (hv_ws (hv_e1 (lw_al (lw_a1 q qs) a2 o, D, T, A)) lw_s1).map some := by
  subst hf; rfl
set_option maxRecDepth 20000 in
set_option maxHeartbeats 4000000 in
theorem lw_h2 (T : Nat → ClassId) (D : va_G) (A : Nat → Prop) (q q' : Nat) (qs qs' : Nat → Nat) (a1 : List Nat) (o : Nat → Nat) (f : Nat → Option Nat) : lw_i2.map (fun i => (lw_w1 T q qs f ++ lw_w2 T q' qs')[i]?) = (hv_ws (hv_e2 (lw_al a1 (lw_a2 q' qs') o, D, T, A)) lw_s2).map some := rfl
theorem lw_row (q : Nat) (qs : Nat → Nat) (a2 : List Nat) (o : Nat → Nat) : (fun i => if i < 8 then some (qs 22 + 1 + i) else none) = fun i => if i < 8 then some (lw_al (lw_a1 q qs) a2 o (24 + i)) else none := by
  funext i
  by_cases c : i < 8
  · rw [if_pos c, if_pos c]
    rcases (show i = 0 ∨ i = 1 ∨ i = 2 ∨ i = 3 ∨ i = 4 ∨ i = 5 ∨ i = 6 ∨ i = 7 by omega) with rfl | rfl | rfl | rfl | rfl | rfl | rfl | rfl <;> rfl
  · rw [if_neg c, if_neg c]
theorem lw_fm {α : Type} {f : Nat → Option α} : ∀ {is : List Nat} {w : List α}, is.map f = w.map some → is.filterMap f = w := by
  intro is
  induction is with
  | nil => intro w h; cases w with
    | nil => rfl
    | cons x w => simp at h
  | cons i is ih => intro w h; cases w with
    | nil => simp at h
    | cons x w =>
      simp only [List.map_cons, List.cons.injEq] at h
      rw [List.filterMap_cons, h.1, ih h.2]
theorem lw_dis {A : Nat → Prop} {W w1 w2 : va_W} {i1 i2 : List Nat} (hD : va_D A W) (h1 : i1.map (fun i => W[i]?) = w1.map some) (h2 : i2.map (fun i => W[i]?) = w2.map some) (hd : ∀ i ∈ i1, ∀ j ∈ i2, i ≠ j) : ∀ p ∈ w1, ∀ q ∈ w2, p.1 ≠ q.1 := by
  intro p hp q hq heq
  have hp' : some p ∈ w1.map some := List.mem_map.mpr ⟨p, hp, rfl⟩
  have hq' : some q ∈ w2.map some := List.mem_map.mpr ⟨q, hq, rfl⟩
  rw [← h1] at hp'
  rw [← h2] at hq'
  obtain ⟨i, hi, hi2⟩ := List.mem_map.mp hp'
  obtain ⟨j, hj, hj2⟩ := List.mem_map.mp hq'
  exact hd i hi j hj (hD.1 i j p q hi2 hj2 heq)
/-- the addresses of a world's places -/
def lw_Ad (al : Nat → Nat) (pl : List Nat) : Nat → Prop := fun x => ∃ k, k ∈ pl ∧ al k = x
theorem lw_P1 {E : hv_E} {σ : hv_S} {A : Nat → Prop} {W : va_W} {H : Heap} {is : List Nat} (hP : va_P (hv_D E) vwCl W H) (hD : va_D A W) (hn : va_nd is = true) (h : is.map (fun i => W[i]?) = (hv_ws E σ).map some) (hA : ∀ k, k ∈ hv_pl E → hv_A E (hv_al E k)) : hv_P E σ H := by
  refine ⟨hP.sub is (lw_fm h), (hD.sub is hn h).1, fun k x hx => ?_⟩
  have hm := List.mem_of_getElem? hx
  unfold hv_ws at hm
  obtain ⟨j, hj, rfl⟩ := List.mem_map.mp hm
  exact hA j hj
/-- before the first call: nobody, nothing fed, no hall -/
def lw_D : hD := fun i j => match i with
  | 0 => (match j with | 3 => 999 | 4 => 1 | 5 => 2 | _ => 0)
  | 1 => 1
  | 2 => 100
  | 3 => 9
  | 4 => 9
  | 6 => 5
  | _ => 0
def lw_hb : hB := fun _ _ _ _ _ => false
def lw_It : hT := fun _ _ => 0
theorem lw_WF : hWF lw_D := ⟨by decide, by decide, by decide, by decide, by decide, by decide, by decide, by decide, by decide,
  fun c _ => ⟨Nat.le_of_ble_eq_true rfl, Nat.le_of_ble_eq_true rfl, Nat.le_of_ble_eq_true rfl, Nat.le_of_ble_eq_true rfl, Nat.le_of_ble_eq_true rfl, Or.inl ⟨Or.inl (Nat.le_of_ble_eq_true rfl), rfl, rfl⟩⟩,
  fun c _ _ => ⟨rfl, rfl, rfl, rfl, rfl, rfl, rfl⟩, fun k hk => absurd hk (Nat.not_lt_zero k), by decide, fun t _ => ⟨Nat.le_of_ble_eq_true rfl, Nat.le_of_ble_eq_true rfl, fun _ => rfl⟩⟩
theorem lw_RX : RX lw_D lw_hb lw_It lw_s1 := by
  refine ⟨⟨rfl, rfl, fun m hm => ?_, fun c _ => ⟨rfl, rfl, rfl, rfl, rfl, rfl⟩⟩, ⟨rfl, fun k hk => absurd hk (Nat.not_lt_zero k)⟩, ⟨Or.inl ⟨rfl, rfl⟩, rfl, ⟨rfl, rfl, rfl, rfl, 0, Nat.zero_le _, rfl, fun k hk => absurd hk (Nat.not_lt_zero k), fun k hk => absurd hk (Nat.not_lt_zero k), fun a b m s q _ _ _ _ _ => ⟨fun k hk => ?_, ?_⟩⟩, fun m a _ _ => rfl⟩, ⟨rfl, fun k hk => absurd hk (Nat.not_lt_zero k)⟩, ⟨fun t _ => ⟨by show (-1 : Int32) = nI 0 - 1; decide, rfl⟩, fun t i _ hi => absurd hi (Nat.not_lt_zero i)⟩⟩
  · rcases (show m = 0 ∨ m = 1 ∨ m = 2 by omega) with rfl | rfl | rfl <;> rfl
  · rw [Nat.le_zero.mp hk]; exact Nat.le_of_ble_eq_true rfl
  · exact ⟨fun h => Bool.noConfusion (show false = true from h), fun h => absurd rfl h⟩
theorem lw_RM : RM lw_D lw_hb lw_It lw_s2 := by
  refine ⟨⟨rfl, rfl, fun c _ => rfl, fun c _ => ⟨0, by decide, rfl⟩, fun m a _ ha => absurd ha (Nat.not_lt_zero a)⟩, ⟨rfl, fun k hk => absurd hk (Nat.not_lt_zero k)⟩, ⟨rfl, rfl, rfl, rfl, rfl, Or.inl ⟨rfl, fun _ _ _ _ _ => rfl⟩⟩, ⟨fun j _ => ⟨0, by decide, rfl⟩, Or.inl rfl⟩, ⟨rfl, fun k hk => absurd hk (Nat.not_lt_zero k)⟩, ⟨fun t ht => ⟨?_, rfl⟩, fun t i _ hi => absurd hi (Nat.not_lt_zero i)⟩⟩
  rcases (show t = 0 ∨ t = 1 ∨ t = 2 ∨ t = 3 ∨ t = 4 ∨ t = 5 by omega) with rfl | rfl | rfl | rfl | rfl | rfl <;> decide
