
/-! the world's cells out of a heap of numbers -/
def d_rf (G : dG) (r : Int) : Option Nat := if r < 0 then none else if r < 1000000 then some (G.1 + r.toNat) else G.2.1 (r - 1000000).toNat
def d_cv (G : dG) (v : dV) : Value := if v.1 = 0 then .int (Int32.ofInt v.2) else if v.1 = 1 then .long (Int64.ofInt v.2) else va_rf (d_rf G v.2)
def d_ty (ci k : Nat) : FieldType := match ci with
  | 0 => tyX0 k
  | 1 => tyX1 k
  | 2 => tyX2 k
  | 3 => tyX3 k
  | 4 => tyX4 k
  | 5 => tyX5 k
  | 6 => tyX6 k
  | _ => tyX7 k
def d_tg (t : FieldType) : Nat := match t with
  | .long => 1
  | .object _ => 2
  | .array _ => 2
  | _ => 0
def d_at (tag : Nat) : FieldType := match tag with
  | 8 => .int
  | 9 => .boolean
  | 10 => .object RX0
  | 11 => .object RX4
  | _ => .object RX3
def d_E (G : dG) (M : dM) (i : Nat) (c : Nat × Nat) : va_E :=
  if c.1 < 8 then .inr (c.1, (List.range c.2).map (fun k => d_cv G (d_tg (d_ty c.1 k), M i k)))
  else if c.1 < 10 then .inl (G.2.2.2 c.1, c.2, .inl (fun j => Int32.ofInt (M i j)))
  else .inl (G.2.2.2 c.1, c.2, .inr (.inr (.inr (.inr (fun j => d_rf G (M i j))))))
def d_ws (G : dG) (h : dH) : va_W := h.1.mapIdx (fun i c => (G.1 + i, d_E G h.2 i c))
def d_tys (G : dG) : List (ClassId × FieldType) := [(G.2.2.2 8, d_at 8), (G.2.2.2 9, d_at 9), (G.2.2.2 10, d_at 10), (G.2.2.2 11, d_at 11), (G.2.2.2 12, d_at 12)]
def d_A (G : dG) : Nat → Prop := fun q => G.1 ≤ q
def d_up (M : dM) (a k v : Int) : dM := fun i j => if i = a ∧ j = k then v else M i j
theorem d_ws_len (G : dG) (h : dH) : (d_ws G h).length = h.1.length := by simp [d_ws]
theorem d_ws_get {G : dG} {h : dH} {i : Nat} {c : Nat × Nat} (hc : h.1[i]? = some c) : (d_ws G h)[i]? = some (G.1 + i, d_E G h.2 i c) := by
  simp [d_ws, List.getElem?_mapIdx, hc]
theorem d_E_eq (G : dG) {M M' : dM} {i : Nat} (c : Nat × Nat) (h : ∀ j : Int, M' i j = M i j) : d_E G M' i c = d_E G M i c := by
  unfold d_E
  simp only [h]
theorem d_ws_set {G : dG} {K : List (Nat × Nat)} {M M' : dM} {i : Nat} {c : Nat × Nat} (hc : K[i]? = some c) (h : ∀ a j : Int, a ≠ i → M' a j = M a j) : d_ws G (K, M') = (d_ws G (K, M)).set i (G.1 + i, d_E G M' i c) := by
  apply List.ext_getElem?
  intro j
  have hl : i < K.length := (List.getElem?_eq_some_iff.mp hc).1
  by_cases hj : j = i
  · subst hj
    rw [d_ws_get (h := (K, M')) hc, List.getElem?_set_self (by rw [d_ws_len]; exact hl)]
  · rw [List.getElem?_set_ne (fun e => hj e.symm)]
    simp only [d_ws, List.getElem?_mapIdx]
    cases hk : K[j]? with
    | none => rfl
    | some cj =>
      simp only [Option.map_some]
      rw [d_E_eq G cj (fun z => h j z (by omega))]
theorem d_ws_push {G : dG} {K : List (Nat × Nat)} {M M' : dM} {c : Nat × Nat} (h : ∀ (a : Nat) (j : Int), a < K.length → M' a j = M a j) : d_ws G (K ++ [c], M') = d_ws G (K, M) ++ [(G.1 + K.length, d_E G M' K.length c)] := by
  apply List.ext_getElem?
  intro j
  simp only [d_ws, List.getElem?_mapIdx]
  by_cases hj : j < K.length
  · rw [List.getElem?_append_left hj, List.getElem?_append_left (by simpa using hj), List.getElem?_mapIdx]
    cases hk : K[j]? with
    | none => rfl
    | some cj =>
      simp only [Option.map_some]
      rw [d_E_eq G cj (fun z => h j z hj)]
  · rw [List.getElem?_append_right (by omega), List.getElem?_append_right (by simp; omega)]
    simp only [List.length_mapIdx]
    by_cases hz : j = K.length
    · subst hz
      simp
    · rw [List.getElem?_eq_none (by simp; omega), List.getElem?_eq_none (by simp; omega)]
      rfl
theorem d_ws_D (G : dG) (h : dH) : va_D (d_A G) (d_ws G h) := by
  have key : ∀ (k : Nat) (q : Nat × va_E), (d_ws G h)[k]? = some q → q.1 = G.1 + k := by
    intro k q hq
    simp only [d_ws, List.getElem?_mapIdx, Option.map_eq_some_iff] at hq
    obtain ⟨c, -, rfl⟩ := hq
    rfl
  refine ⟨fun i j p q hi hj e => ?_, fun k q hq => ?_⟩
  · rw [key i p hi, key j q hj] at e
    omega
  · show G.1 ≤ q.1
    rw [key k q hq]
    omega
theorem d_rf_cell (G : dG) {r : Int} (h0 : 0 ≤ r) (h : r < 1000000) : d_rf G r = some (G.1 + r.toNat) := by
  unfold d_rf
  rw [if_neg (by omega), if_pos h]
