/-! laws by which a method's stretches are told -/
def kc (K : List (Nat × Nat)) (r : Int) : Option (Nat × Nat) := if 0 ≤ r ∧ r < 1000000 then K[r.toNat]? else none
theorem kc_cell (K : List (Nat × Nat)) (M : dM) (r : Int) : d_cell (K, M) r = kc K r := rfl
def og (K : List (Nat × Nat)) (tag : Nat) (r : Int) (b : Nat) : Bool := match kc K r with
  | some c => decide (c.1 = tag ∧ c.1 < 8 ∧ b < c.2)
  | none => false
def rg (K : List (Nat × Nat)) (tag : Nat) (r : Int) : Bool := match kc K r with
  | some c => decide (c.1 = tag)
  | none => false
def ag (K : List (Nat × Nat)) (tag : Nat) (r i : Int) : Bool := match kc K r with
  | some c => decide (c.1 = tag ∧ 0 ≤ i ∧ i < c.2)
  | none => false
def lg_ (K : List (Nat × Nat)) (r : Int) : Bool := match kc K r with
  | some c => decide (8 ≤ c.1 ∧ c.1 < 13 ∧ c.2 < 2147483648)
  | none => false
def kn (K : List (Nat × Nat)) (r : Int) : Int := match kc K r with
  | some c => (c.2 : Int)
  | none => 0
def cg (K : List (Nat × Nat)) (x i y j n : Int) : Bool := match kc K x, kc K y with
  | some c, some cy => decide (c.1 = 8 ∧ cy.1 = 8 ∧ 0 ≤ n ∧ 0 ≤ i ∧ 0 ≤ j ∧ i + n ≤ c.2 ∧ j + n ≤ cy.2)
  | _, _ => false
def d_cpy (M : dM) (x i y j n : Int) : dM := fun p q => if p = y ∧ j ≤ q ∧ q < j + n then M x (i + (q - j)) else M p q
def i_and (x y : Int) : Int := (Int32.ofInt x &&& Int32.ofInt y).toInt
def i_or (x y : Int) : Int := (Int32.ofInt x ||| Int32.ofInt y).toInt
def i_xor (x y : Int) : Int := (Int32.ofInt x ^^^ Int32.ofInt y).toInt
def i_shl (x y : Int) : Int := (Int32.ofInt x <<< (Int32.ofInt y &&& 31)).toInt
def i_shr (x y : Int) : Int := (Int32.ofInt x >>> (Int32.ofInt y &&& 31)).toInt
def i_ushr (x y : Int) : Int := ((Int32.ofInt x).toUInt32 >>> ((Int32.ofInt y).toUInt32 &&& Int32.toUInt32 31)).toInt32.toInt
def i_b (x : Int) : Int := (Int32.ofInt x).toInt8.toInt32.toInt
def i_s (x : Int) : Int := (Int32.ofInt x).toInt16.toInt32.toInt
def i_c (x : Int) : Int := ((Int32.ofInt x).toUInt32 % 65536).toInt32.toInt
def i_cmp (x y : Int) : Int := if y < x then 1 else if x = y then 0 else -1
def pvl (L : List dV) (i : Nat) : Bool := match i with
  | 0 => true
  | j + 1 => match L[j]? with
    | some v => !(v.1 == 1)
    | none => true
theorem g_congr {α : Type} {g : Bool} {a b : Option α} (h : g = true → a = b) : (if g = true then a else none) = (if g = true then b else none) := by
  by_cases q : g = true
  · rw [if_pos q, if_pos q, h q]
  · rw [if_neg q, if_neg q]
theorem c_congr {α : Type} {c : Prop} [Decidable c] {a a' b b' : α} (h1 : c → a = a') (h2 : ¬ c → b = b') : (if c then a else b) = (if c then a' else b') := by
  by_cases q : c
  · rw [if_pos q, if_pos q, h1 q]
  · rw [if_neg q, if_neg q, h2 q]
theorem p_congr {α : Type} {c : Prop} [Decidable c] {a b : Option α} (h : c → a = b) : (if c then a else none) = (if c then b else none) := by
  by_cases q : c
  · rw [if_pos q, if_pos q, h q]
  · rw [if_neg q, if_neg q]
section VL
variable {sc : dS} {d : Nat} {code : Nat → Option dI} {pc len : Nat} {L st : List dV} {K : List (Nat × Nat)} {M : dM}
theorem v_getf {a b t : Nat} {r : Int} (hc : code pc = some (16, len, (a : Int), (b : Int), [])) (ht : d_tg (d_ty a b) = t) : vr sc d code (pc, L, (2, r) :: st, (K, M)) = if og K a r b = true then vr sc d code (pc + len, L, (t, M r b) :: st, (K, M)) else none := by
  subst ht
  have e : d_step sc (fun _ _ _ => none) (16, len, (a : Int), (b : Int), []) (pc, L, (2, r) :: st, (K, M)) = if og K a r b = true then some (pc + len, L, (d_tg (d_ty a b), M r b) :: st, (K, M)) else none := by
    show (if 2 = 2 then (match d_cell (K, M) r with
      | some c => if c.1 = a ∧ c.1 < 8 ∧ b < c.2 then some (pc + len, L, (d_tg (d_ty c.1 b), M r b) :: st, (K, M)) else none
      | none => none) else none) = _
    rw [if_pos rfl, kc_cell]
    unfold og
    cases kc K r with
    | none => rfl
    | some c =>
      dsimp only
      by_cases h : c.1 = a ∧ c.1 < 8 ∧ b < c.2
      · rw [if_pos h, if_pos (decide_eq_true h), h.1]
      · rw [if_neg h, if_neg (fun z => h (of_decide_eq_true z))]
  rw [vr_step (x := (pc, L, (2, r) :: st, (K, M))) hc (Nat.ne_of_beq_eq_false rfl) (Nat.ne_of_beq_eq_false rfl) e]
  split <;> rfl
theorem v_putf {a b t : Nat} {r v : Int} (hc : code pc = some (17, len, (a : Int), (b : Int), [])) (ht : d_tg (d_ty a b) = t) (hb : d_ty a b ≠ .boolean) : vr sc d code (pc, L, (t, v) :: (2, r) :: st, (K, M)) = if og K a r b = true then (if -2147483648 ≤ v ∧ v < 2147483648 then vr sc d code (pc + len, L, st, (K, d_up M r b v)) else none) else none := by
  subst ht
  have e : d_step sc (fun _ _ _ => none) (17, len, (a : Int), (b : Int), []) (pc, L, (d_tg (d_ty a b), v) :: (2, r) :: st, (K, M)) = if og K a r b = true then (if -2147483648 ≤ v ∧ v < 2147483648 then some (pc + len, L, st, (K, d_up M r b v)) else none) else none := by
    show (if 2 = 2 then (match d_cell (K, M) r with
      | some c => if c.1 = a ∧ c.1 < 8 ∧ b < c.2 ∧ d_tg (d_ty a b) = d_tg (d_ty c.1 b) ∧ (-2147483648 ≤ v ∧ v < 2147483648) ∧ (d_ty c.1 b = .boolean → v = 0 ∨ v = 1) then some (pc + len, L, st, (K, d_up M r b v)) else none
      | none => none) else none) = _
    rw [if_pos rfl, kc_cell]
    unfold og
    cases kc K r with
    | none => rfl
    | some c =>
      obtain ⟨c1, c2⟩ := c
      dsimp only
      by_cases h : c1 = a ∧ c1 < 8 ∧ b < c2
      · obtain ⟨rfl, h8, h9⟩ := h
        rw [if_pos (decide_eq_true ⟨rfl, h8, h9⟩)]
        by_cases hv : -2147483648 ≤ v ∧ v < 2147483648
        · rw [if_pos hv, if_pos ⟨rfl, h8, h9, rfl, hv, fun z => absurd z hb⟩]
        · rw [if_neg hv, if_neg (fun z => hv z.2.2.2.2.1)]
      · rw [if_neg (fun z => h (of_decide_eq_true z)), if_neg (fun z => h ⟨z.1, z.2.1, z.2.2.1⟩)]
  rw [vr_step (x := (pc, L, (d_tg (d_ty a b), v) :: (2, r) :: st, (K, M))) hc (Nat.ne_of_beq_eq_false rfl) (Nat.ne_of_beq_eq_false rfl) e]
  split
  · split <;> rfl
  · rfl
theorem v_putz {a b : Nat} {r v : Int} (hc : code pc = some (17, len, (a : Int), (b : Int), [])) (ht : d_tg (d_ty a b) = 0) (hv : v = 0 ∨ v = 1) : vr sc d code (pc, L, (0, v) :: (2, r) :: st, (K, M)) = if og K a r b = true then vr sc d code (pc + len, L, st, (K, d_up M r b v)) else none := by
  have e : d_step sc (fun _ _ _ => none) (17, len, (a : Int), (b : Int), []) (pc, L, (0, v) :: (2, r) :: st, (K, M)) = if og K a r b = true then some (pc + len, L, st, (K, d_up M r b v)) else none := by
    show (if 2 = 2 then (match d_cell (K, M) r with
      | some c => if c.1 = a ∧ c.1 < 8 ∧ b < c.2 ∧ 0 = d_tg (d_ty c.1 b) ∧ (-2147483648 ≤ v ∧ v < 2147483648) ∧ (d_ty c.1 b = .boolean → v = 0 ∨ v = 1) then some (pc + len, L, st, (K, d_up M r b v)) else none
      | none => none) else none) = _
    rw [if_pos rfl, kc_cell]
    unfold og
    cases kc K r with
    | none => rfl
    | some c =>
      obtain ⟨c1, c2⟩ := c
      dsimp only
      by_cases h : c1 = a ∧ c1 < 8 ∧ b < c2
      · obtain ⟨rfl, h8, h9⟩ := h
        rw [if_pos (decide_eq_true ⟨rfl, h8, h9⟩), if_pos ⟨rfl, h8, h9, ht.symm, by omega, fun _ => hv⟩]
      · rw [if_neg (fun z => h (of_decide_eq_true z)), if_neg (fun z => h ⟨z.1, z.2.1, z.2.2.1⟩)]
  rw [vr_step (x := (pc, L, (0, v) :: (2, r) :: st, (K, M))) hc (Nat.ne_of_beq_eq_false rfl) (Nat.ne_of_beq_eq_false rfl) e]
  split <;> rfl
theorem v_ald {a : Nat} {r i : Int} (hc : code pc = some (18, len, (a : Int), 0, [])) (h89 : a = 8 ∨ a = 9) : vr sc d code (pc, L, (0, i) :: (2, r) :: st, (K, M)) = if ag K a r i = true then vr sc d code (pc + len, L, (0, M r i) :: st, (K, M)) else none := by
  have e : d_step sc (fun _ _ _ => none) (18, len, (a : Int), 0, []) (pc, L, (0, i) :: (2, r) :: st, (K, M)) = if ag K a r i = true then some (pc + len, L, (0, M r i) :: st, (K, M)) else none := by
    show (if 0 = 0 ∧ 2 = 2 then (match d_cell (K, M) r with
      | some c => if c.1 = a ∧ (c.1 = 8 ∨ c.1 = 9) ∧ 0 ≤ i ∧ i < c.2 then some (pc + len, L, (0, M r i) :: st, (K, M)) else none
      | none => none) else none) = _
    rw [if_pos ⟨rfl, rfl⟩, kc_cell]
    unfold ag
    cases kc K r with
    | none => rfl
    | some c =>
      obtain ⟨c1, c2⟩ := c
      dsimp only
      by_cases h : c1 = a ∧ 0 ≤ i ∧ i < c2
      · obtain ⟨rfl, h8, h9⟩ := h
        rw [if_pos (decide_eq_true ⟨rfl, h8, h9⟩), if_pos ⟨rfl, h89, h8, h9⟩]
      · rw [if_neg (fun z => h (of_decide_eq_true z)), if_neg (fun z => h ⟨z.1, z.2.2.1, z.2.2.2⟩)]
  rw [vr_step (x := (pc, L, (0, i) :: (2, r) :: st, (K, M))) hc (Nat.ne_of_beq_eq_false rfl) (Nat.ne_of_beq_eq_false rfl) e]
  split <;> rfl
theorem v_aldq {a : Nat} {r i : Int} (hc : code pc = some (22, len, (a : Int), 0, [])) (h10 : 10 ≤ a) : vr sc d code (pc, L, (0, i) :: (2, r) :: st, (K, M)) = if ag K a r i = true then vr sc d code (pc + len, L, (2, M r i) :: st, (K, M)) else none := by
  have e : d_step sc (fun _ _ _ => none) (22, len, (a : Int), 0, []) (pc, L, (0, i) :: (2, r) :: st, (K, M)) = if ag K a r i = true then some (pc + len, L, (2, M r i) :: st, (K, M)) else none := by
    show (if 0 = 0 ∧ 2 = 2 then (match d_cell (K, M) r with
      | some c => if c.1 = a ∧ 10 ≤ c.1 ∧ 0 ≤ i ∧ i < c.2 then some (pc + len, L, (2, M r i) :: st, (K, M)) else none
      | none => none) else none) = _
    rw [if_pos ⟨rfl, rfl⟩, kc_cell]
    unfold ag
    cases kc K r with
    | none => rfl
    | some c =>
      obtain ⟨c1, c2⟩ := c
      dsimp only
      by_cases h : c1 = a ∧ 0 ≤ i ∧ i < c2
      · obtain ⟨rfl, h8, h9⟩ := h
        rw [if_pos (decide_eq_true ⟨rfl, h8, h9⟩), if_pos ⟨rfl, h10, h8, h9⟩]
      · rw [if_neg (fun z => h (of_decide_eq_true z)), if_neg (fun z => h ⟨z.1, z.2.2.1, z.2.2.2⟩)]
  rw [vr_step (x := (pc, L, (0, i) :: (2, r) :: st, (K, M))) hc (Nat.ne_of_beq_eq_false rfl) (Nat.ne_of_beq_eq_false rfl) e]
  split <;> rfl
theorem v_ast {r i v : Int} (hc : code pc = some (19, len, 8, 0, [])) : vr sc d code (pc, L, (0, v) :: (0, i) :: (2, r) :: st, (K, M)) = if ag K 8 r i = true then vr sc d code (pc + len, L, st, (K, d_up M r i v)) else none := by
  have e : d_step sc (fun _ _ _ => none) (19, len, 8, 0, []) (pc, L, (0, v) :: (0, i) :: (2, r) :: st, (K, M)) = if ag K 8 r i = true then some (pc + len, L, st, (K, d_up M r i v)) else none := by
    show (if 0 = 0 ∧ 0 = 0 ∧ 2 = 2 then (match d_cell (K, M) r with
      | some c => if c.1 = 8 ∧ (c.1 = 8 ∨ c.1 = 9 ∧ (v = 0 ∨ v = 1)) ∧ 0 ≤ i ∧ i < c.2 then some (pc + len, L, st, (K, d_up M r i v)) else none
      | none => none) else none) = _
    rw [if_pos ⟨rfl, rfl, rfl⟩, kc_cell]
    unfold ag
    cases kc K r with
    | none => rfl
    | some c =>
      obtain ⟨c1, c2⟩ := c
      dsimp only
      by_cases h : c1 = 8 ∧ 0 ≤ i ∧ i < c2
      · obtain ⟨rfl, h8, h9⟩ := h
        rw [if_pos (decide_eq_true ⟨rfl, h8, h9⟩), if_pos ⟨rfl, Or.inl rfl, h8, h9⟩]
      · rw [if_neg (fun z => h (of_decide_eq_true z)), if_neg (fun z => h ⟨z.1, z.2.2.1, z.2.2.2⟩)]
  rw [vr_step (x := (pc, L, (0, v) :: (0, i) :: (2, r) :: st, (K, M))) hc (Nat.ne_of_beq_eq_false rfl) (Nat.ne_of_beq_eq_false rfl) e]
  split <;> rfl
theorem v_astz {r i v : Int} (hc : code pc = some (19, len, 9, 0, [])) : vr sc d code (pc, L, (0, v) :: (0, i) :: (2, r) :: st, (K, M)) = if ag K 9 r i = true then (if v = 0 ∨ v = 1 then vr sc d code (pc + len, L, st, (K, d_up M r i v)) else none) else none := by
  have e : d_step sc (fun _ _ _ => none) (19, len, 9, 0, []) (pc, L, (0, v) :: (0, i) :: (2, r) :: st, (K, M)) = if ag K 9 r i = true then (if v = 0 ∨ v = 1 then some (pc + len, L, st, (K, d_up M r i v)) else none) else none := by
    show (if 0 = 0 ∧ 0 = 0 ∧ 2 = 2 then (match d_cell (K, M) r with
      | some c => if c.1 = 9 ∧ (c.1 = 8 ∨ c.1 = 9 ∧ (v = 0 ∨ v = 1)) ∧ 0 ≤ i ∧ i < c.2 then some (pc + len, L, st, (K, d_up M r i v)) else none
      | none => none) else none) = _
    rw [if_pos ⟨rfl, rfl, rfl⟩, kc_cell]
    unfold ag
    cases kc K r with
    | none => rfl
    | some c =>
      obtain ⟨c1, c2⟩ := c
      dsimp only
      by_cases h : c1 = 9 ∧ 0 ≤ i ∧ i < c2
      · obtain ⟨rfl, h8, h9⟩ := h
        rw [if_pos (decide_eq_true ⟨rfl, h8, h9⟩)]
        by_cases hv : v = 0 ∨ v = 1
        · rw [if_pos hv, if_pos ⟨rfl, Or.inr ⟨rfl, hv⟩, h8, h9⟩]
        · rw [if_neg hv, if_neg (fun z => z.2.1.elim (fun w => absurd w (by decide)) (fun w => hv w.2))]
      · rw [if_neg (fun z => h (of_decide_eq_true z)), if_neg (fun z => h ⟨z.1, z.2.2.1, z.2.2.2⟩)]
  rw [vr_step (x := (pc, L, (0, v) :: (0, i) :: (2, r) :: st, (K, M))) hc (Nat.ne_of_beq_eq_false rfl) (Nat.ne_of_beq_eq_false rfl) e]
  split
  · split <;> rfl
  · rfl
theorem v_alen {r : Int} (hc : code pc = some (24, len, 0, 0, [])) : vr sc d code (pc, L, (2, r) :: st, (K, M)) = if lg_ K r = true then vr sc d code (pc + len, L, (0, kn K r) :: st, (K, M)) else none := by
  have e : d_step sc (fun _ _ _ => none) (24, len, 0, 0, []) (pc, L, (2, r) :: st, (K, M)) = if lg_ K r = true then some (pc + len, L, (0, kn K r) :: st, (K, M)) else none := by
    show (if 2 = 2 then (match d_cell (K, M) r with
      | some c => if 8 ≤ c.1 ∧ c.1 < 13 ∧ c.2 < 2147483648 then some (pc + len, L, (0, (c.2 : Int)) :: st, (K, M)) else none
      | none => none) else none) = _
    rw [if_pos rfl, kc_cell]
    unfold lg_ kn
    cases kc K r with
    | none => rfl
    | some c =>
      dsimp only
      by_cases h : 8 ≤ c.1 ∧ c.1 < 13 ∧ c.2 < 2147483648
      · rw [if_pos (decide_eq_true h), if_pos h]
      · rw [if_neg (fun z => h (of_decide_eq_true z)), if_neg h]
  rw [vr_step (x := (pc, L, (2, r) :: st, (K, M))) hc (Nat.ne_of_beq_eq_false rfl) (Nat.ne_of_beq_eq_false rfl) e]
  split <;> rfl
theorem v_copy {x i y j n : Int} (hc : code pc = some (30, len, 0, 0, [])) (hst : d_cat st ≤ 8) : vr sc d code (pc, L, (0, n) :: (0, j) :: (2, y) :: (0, i) :: (2, x) :: st, (K, M)) = if cg K x i y j n = true then vr sc d code (pc + len, L, st, (K, d_cpy M x i y j n)) else none := by
  have e : d_step sc (fun _ _ _ => none) (30, len, 0, 0, []) (pc, L, (0, n) :: (0, j) :: (2, y) :: (0, i) :: (2, x) :: st, (K, M)) = if cg K x i y j n = true then some (pc + len, L, st, (K, d_cpy M x i y j n)) else none := by
    show (if 0 = 0 ∧ 0 = 0 ∧ 2 = 2 ∧ 0 = 0 ∧ 2 = 2 ∧ d_cat st ≤ 8 then (match d_cell (K, M) x, d_cell (K, M) y with
      | some c, some cy => if c.1 = 8 ∧ cy.1 = 8 ∧ 0 ≤ n ∧ 0 ≤ i ∧ 0 ≤ j ∧ i + n ≤ c.2 ∧ j + n ≤ cy.2 then
        some (pc + len, L, st, (K, d_cpy M x i y j n)) else none
      | _, _ => none) else none) = _
    rw [if_pos ⟨rfl, rfl, rfl, rfl, rfl, hst⟩, kc_cell, kc_cell]
    unfold cg
    cases kc K x with
    | none => rfl
    | some c => cases kc K y with
      | none => rfl
      | some cy =>
        dsimp only
        by_cases h : c.1 = 8 ∧ cy.1 = 8 ∧ 0 ≤ n ∧ 0 ≤ i ∧ 0 ≤ j ∧ i + n ≤ c.2 ∧ j + n ≤ cy.2
        · rw [if_pos (decide_eq_true h), if_pos h]
        · rw [if_neg (fun z => h (of_decide_eq_true z)), if_neg h]
  rw [vr_step (x := (pc, L, (0, n) :: (0, j) :: (2, y) :: (0, i) :: (2, x) :: st, (K, M))) hc (Nat.ne_of_beq_eq_false rfl) (Nat.ne_of_beq_eq_false rfl) e]
  split <;> rfl
theorem v_if {k b : Nat} {x : Int} {c : Prop} [Decidable c] (hc : code pc = some (11, len, (k : Int), (b : Int), [])) (hk : d_cond k x 0 = decide c) {h : dH} : vr sc d code (pc, L, (0, x) :: st, h) = if c then vr sc d code (b, L, st, h) else vr sc d code (pc + len, L, st, h) := by
  have e : d_step sc (fun _ _ _ => none) (11, len, (k : Int), (b : Int), []) (pc, L, (0, x) :: st, h) = some (if d_cond k x 0 = true then b else pc + len, L, st, h) := by
    show ((if 0 = 0 then some (if d_cond k x 0 = true then b else pc + len, L, st) else none).map (fun z => (z.1, z.2.1, z.2.2, h))) = _
    rw [if_pos rfl]
    rfl
  rw [vr_step (x := (pc, L, (0, x) :: st, h)) hc (Nat.ne_of_beq_eq_false rfl) (Nat.ne_of_beq_eq_false rfl) e, hk]
  by_cases q : c
  · rw [if_pos q, if_pos (decide_eq_true q)]
    rfl
  · rw [if_neg q, if_neg (fun z => q (of_decide_eq_true z))]
    rfl
theorem v_icmp {k b : Nat} {x y : Int} {c : Prop} [Decidable c] (hc : code pc = some (12, len, (k : Int), (b : Int), [])) (hk : d_cond k x y = decide c) {h : dH} : vr sc d code (pc, L, (0, y) :: (0, x) :: st, h) = if c then vr sc d code (b, L, st, h) else vr sc d code (pc + len, L, st, h) := by
  have e : d_step sc (fun _ _ _ => none) (12, len, (k : Int), (b : Int), []) (pc, L, (0, y) :: (0, x) :: st, h) = some (if d_cond k x y = true then b else pc + len, L, st, h) := by
    show ((if 0 = 0 ∧ 0 = 0 then some (if d_cond k x y = true then b else pc + len, L, st) else none).map (fun z => (z.1, z.2.1, z.2.2, h))) = _
    rw [if_pos ⟨rfl, rfl⟩]
    rfl
  rw [vr_step (x := (pc, L, (0, y) :: (0, x) :: st, h)) hc (Nat.ne_of_beq_eq_false rfl) (Nat.ne_of_beq_eq_false rfl) e, hk]
  by_cases q : c
  · rw [if_pos q, if_pos (decide_eq_true q)]
    rfl
  · rw [if_neg q, if_neg (fun z => q (of_decide_eq_true z))]
    rfl
def swf (sw : List (Int × Nat)) (x : Int) (b : Nat) (f : Nat → dRes) : dRes := match sw with
  | [] => f b
  | q :: l => if x = q.1 then f q.2 else swf l x b f
theorem swf_eq (f : Nat → dRes) (x : Int) (b : Nat) : ∀ sw, f (d_sw sw x b) = swf sw x b f := by
  intro sw
  induction sw with
  | nil => rfl
  | cons q l ih =>
    show f (if q.1 = x then q.2 else d_sw l x b) = if x = q.1 then f q.2 else swf l x b f
    by_cases h : x = q.1
    · rw [if_pos h, if_pos h.symm]
    · rw [if_neg h, if_neg (fun z => h z.symm), ih]
theorem v_sw {b : Nat} {x : Int} {sw : List (Int × Nat)} (hc : code pc = some (15, len, 0, (b : Int), sw)) {h : dH} : vr sc d code (pc, L, (0, x) :: st, h) = swf sw x b (fun t => vr sc d code (t, L, st, h)) := by
  have e : d_step sc (fun _ _ _ => none) (15, len, 0, (b : Int), sw) (pc, L, (0, x) :: st, h) = some (d_sw sw x b, L, st, h) := by
    show ((if 0 = 0 then some (d_sw sw x b, L, st) else none).map (fun z => (z.1, z.2.1, z.2.2, h))) = _
    rw [if_pos rfl]
    rfl
  rw [vr_step (x := (pc, L, (0, x) :: st, h)) hc (Nat.ne_of_beq_eq_false rfl) (Nat.ne_of_beq_eq_false rfl) e]
  exact swf_eq (fun t => vr sc d code (t, L, st, h)) x b sw
theorem v_store {i t : Nat} {z : Int} (hc : code pc = some (4, len, (i : Int), (t : Int), [])) (ht : t = 0 ∨ t = 2) (hi : i < L.length) (hp : pvl L i = true) {h : dH} : vr sc d code (pc, L, (t, z) :: st, h) = vr sc d code (pc + len, L.set i (t, z), st, h) := by
  have e1 : d_lset L i (t, z) = L.set i (t, z) := by
    unfold d_lset
    rw [if_neg (by dsimp only; omega)]
    congr 1
    unfold d_clr pvl at *
    cases i with
    | zero => rfl
    | succ j =>
      have hp : (match L[j]? with | some v => !(v.1 == 1) | none => true) = true := hp
      show (match L[j]? with | some v => if v.1 = 1 then L.set j (3, 0) else L | none => L) = L
      cases hL : L[j]? with
      | none => rfl
      | some v =>
        rw [hL] at hp
        have hp : (!(v.1 == 1)) = true := hp
        show (if v.1 = 1 then L.set j (3, 0) else L) = L
        rw [if_neg (by simpa using hp)]
  have e : d_step sc (fun _ _ _ => none) (4, len, (i : Int), (t : Int), []) (pc, L, (t, z) :: st, h) = some (pc + len, L.set i (t, z), st, h) := by
    show ((if t = (t : Int).toNat ∧ t ≤ 2 ∧ (i : Int).toNat + (if t = 1 then 1 else 0) < L.length then some (pc + len, d_lset L (i : Int).toNat (t, z), st) else none).map (fun z => (z.1, z.2.1, z.2.2, h))) = _
    rw [if_pos ⟨by omega, by omega, by split <;> omega⟩, show (i : Int).toNat = i by omega, e1]
    rfl
  rw [vr_step (x := (pc, L, (t, z) :: st, h)) hc (Nat.ne_of_beq_eq_false rfl) (Nat.ne_of_beq_eq_false rfl) e]
  rfl
theorem v_stat {k n : Nat} (hc : code pc = some (28, len, (k : Int), (n : Int), [])) (h1 : n ≤ st.length) (h2 : d_cat (st.drop n) ≤ 8) {h : dH} : vr sc d code (pc, L, st, h) = (vc sc d k (st.take n).reverse h).bind (fun r => vr sc d code (pc + len, L, r.1 ++ st.drop n, r.2)) := vr_call hc h1 h2 rfl
theorem v_virt {k n tag : Nat} {r : Int} {av : List dV} (hc : code pc = some (28, len, (k : Int), (n : Int), [((tag : Int), 0)])) (h1 : n ≤ st.length) (h2 : d_cat (st.drop n) ≤ 8) (h3 : (st.take n).reverse = (2, r) :: av) : vr sc d code (pc, L, st, (K, M)) = if rg K tag r = true then (vc sc d k ((2, r) :: av) (K, M)).bind (fun r => vr sc d code (pc + len, L, r.1 ++ st.drop n, r.2)) else none := by
  by_cases hg : rg K tag r = true
  · rw [if_pos hg, ← h3]
    refine vr_call hc h1 h2 ?_
    rw [h3]
    unfold rg at hg
    show ((2 == 2) && (if (tag : Int) = -1 then (r == 1000002 || r == 1000003) else (match d_cell (K, M) r with
      | some c => decide ((c.1 : Int) = tag)
      | none => false))) = true
    rw [if_neg (by omega), kc_cell]
    cases hk : kc K r with
    | none => rw [hk] at hg; cases hg
    | some c =>
      rw [hk] at hg
      have hg : c.1 = tag := of_decide_eq_true hg
      have : (c.1 : Int) = tag := by omega
      simp [this]
  · rw [if_neg hg]
    apply vr_none
    intro m q hm
    match m, hm with
    | m + 1, hm =>
      rw [vr_run1 (x := (pc, L, st, (K, M))) hc (Nat.ne_of_beq_eq_false rfl)] at hm
      have e : d_step sc (d_call d_P sc (m + 1) d) (28, len, (k : Int), (n : Int), [((tag : Int), 0)]) (pc, L, st, (K, M)) = none := by
        show (if n ≤ st.length ∧ d_cat (st.drop n) ≤ 8 ∧ d_rcv (K, M) [((tag : Int), 0)] (st.take n).reverse = true then _ else none) = none
        refine if_neg (fun z => hg ?_)
        have z := z.2.2
        rw [h3] at z
        have z : ((2 == 2) && (if (tag : Int) = -1 then (r == 1000002 || r == 1000003) else (match d_cell (K, M) r with
          | some c => decide ((c.1 : Int) = tag)
          | none => false))) = true := z
        rw [if_neg (by omega), kc_cell] at z
        unfold rg
        cases hk : kc K r with
        | none => rw [hk] at z; cases z
        | some c =>
          rw [hk] at z
          have z : decide ((c.1 : Int) = tag) = true := by simpa using z
          have z := of_decide_eq_true z
          exact decide_eq_true (by omega)
      rw [e] at hm
      cases hm
theorem v_above {i : Int} (hc : code pc = some (39, len, 0, 0, [])) {h : dH} : vr sc d code (pc, L, (0, i) :: (2, 1000000) :: st, h) = if 0 ≤ i ∧ i < 6 then vr sc d code (pc + len, L, (0, d_above.getD i.toNat 0) :: st, h) else none := by
  have e : d_step sc (fun _ _ _ => none) (39, len, 0, 0, []) (pc, L, (0, i) :: (2, 1000000) :: st, h) = if 0 ≤ i ∧ i < 6 then some (pc + len, L, (0, d_above.getD i.toNat 0) :: st, h) else none := by
    show ((if 0 = 0 ∧ 2 = 2 ∧ (1000000 : Int) = 1000000 ∧ 0 ≤ i ∧ i < 6 then some (pc + len, L, (0, d_above.getD i.toNat 0) :: st) else none).map (fun z => (z.1, z.2.1, z.2.2, h))) = _
    by_cases q : 0 ≤ i ∧ i < 6
    · rw [if_pos q, if_pos ⟨rfl, rfl, rfl, q.1, q.2⟩]
      rfl
    · rw [if_neg q, if_neg (fun z => q ⟨z.2.2.2.1, z.2.2.2.2⟩)]
      rfl
  rw [vr_step (x := (pc, L, (0, i) :: (2, 1000000) :: st, h)) hc (Nat.ne_of_beq_eq_false rfl) (Nat.ne_of_beq_eq_false rfl) e]
  split <;> rfl
theorem v_blen {r : Int} (hc : code pc = some (44, len, 0, 0, [])) {h : dH} : vr sc d code (pc, L, (2, r) :: st, h) = if r = 1000004 ∨ r = 1000005 then vr sc d code (pc + len, L, (0, ((d_str (r - 1000004).toNat).length : Int)) :: st, h) else none := by
  have e : d_step sc (fun _ _ _ => none) (44, len, 0, 0, []) (pc, L, (2, r) :: st, h) = if r = 1000004 ∨ r = 1000005 then some (pc + len, L, (0, ((d_str (r - 1000004).toNat).length : Int)) :: st, h) else none := by
    show ((if 2 = 2 ∧ (r = 1000004 ∨ r = 1000005) then some (pc + len, L, (0, ((d_str (r - 1000004).toNat).length : Int)) :: st) else none).map (fun z => (z.1, z.2.1, z.2.2, h))) = _
    by_cases q : r = 1000004 ∨ r = 1000005
    · rw [if_pos q, if_pos ⟨rfl, q⟩]
      rfl
    · rw [if_neg q, if_neg (fun z => q z.2)]
      rfl
  rw [vr_step (x := (pc, L, (2, r) :: st, h)) hc (Nat.ne_of_beq_eq_false rfl) (Nat.ne_of_beq_eq_false rfl) e]
  split <;> rfl
theorem v_val {r : Int} (hc : code pc = some (42, len, 0, 0, [])) {h : dH} : vr sc d code (pc, L, (2, r) :: st, h) = if r = 1000002 ∨ r = 1000003 then vr sc d code (pc + len, L, (2, r + 2) :: st, h) else none := by
  have e : d_step sc (fun _ _ _ => none) (42, len, 0, 0, []) (pc, L, (2, r) :: st, h) = if r = 1000002 ∨ r = 1000003 then some (pc + len, L, (2, r + 2) :: st, h) else none := by
    show ((if 2 = 2 ∧ (r = 1000002 ∨ r = 1000003) then some (pc + len, L, (2, r + 2) :: st) else none).map (fun z => (z.1, z.2.1, z.2.2, h))) = _
    by_cases q : r = 1000002 ∨ r = 1000003
    · rw [if_pos q, if_pos ⟨rfl, q⟩]
      rfl
    · rw [if_neg q, if_neg (fun z => q z.2)]
      rfl
  rw [vr_step (x := (pc, L, (2, r) :: st, h)) hc (Nat.ne_of_beq_eq_false rfl) (Nat.ne_of_beq_eq_false rfl) e]
  split <;> rfl
theorem v_cod {r : Int} (hc : code pc = some (43, len, 0, 0, [])) {h : dH} : vr sc d code (pc, L, (2, r) :: st, h) = if r = 1000002 ∨ r = 1000003 then vr sc d code (pc + len, L, (0, 0) :: st, h) else none := by
  have e : d_step sc (fun _ _ _ => none) (43, len, 0, 0, []) (pc, L, (2, r) :: st, h) = if r = 1000002 ∨ r = 1000003 then some (pc + len, L, (0, 0) :: st, h) else none := by
    show ((if 2 = 2 ∧ (r = 1000002 ∨ r = 1000003) then some (pc + len, L, (0, 0) :: st) else none).map (fun z => (z.1, z.2.1, z.2.2, h))) = _
    by_cases q : r = 1000002 ∨ r = 1000003
    · rw [if_pos q, if_pos ⟨rfl, q⟩]
      rfl
    · rw [if_neg q, if_neg (fun z => q z.2)]
      rfl
  rw [vr_step (x := (pc, L, (2, r) :: st, h)) hc (Nat.ne_of_beq_eq_false rfl) (Nat.ne_of_beq_eq_false rfl) e]
  split <;> rfl
theorem v_byte {r i : Int} (hc : code pc = some (45, len, 0, 0, [])) {h : dH} : vr sc d code (pc, L, (0, i) :: (2, r) :: st, h) = if (r = 1000004 ∨ r = 1000005) ∧ 0 ≤ i ∧ i < (d_str (r - 1000004).toNat).length then vr sc d code (pc + len, L, (0, (d_str (r - 1000004).toNat).getD i.toNat 0) :: st, h) else none := by
  have e : d_step sc (fun _ _ _ => none) (45, len, 0, 0, []) (pc, L, (0, i) :: (2, r) :: st, h) = if (r = 1000004 ∨ r = 1000005) ∧ 0 ≤ i ∧ i < (d_str (r - 1000004).toNat).length then some (pc + len, L, (0, (d_str (r - 1000004).toNat).getD i.toNat 0) :: st, h) else none := by
    show ((if 0 = 0 ∧ 2 = 2 ∧ (r = 1000004 ∨ r = 1000005) ∧ 0 ≤ i ∧ i < (d_str (r - 1000004).toNat).length then some (pc + len, L, (0, (d_str (r - 1000004).toNat).getD i.toNat 0) :: st) else none).map (fun z => (z.1, z.2.1, z.2.2, h))) = _
    by_cases q : (r = 1000004 ∨ r = 1000005) ∧ 0 ≤ i ∧ i < (d_str (r - 1000004).toNat).length
    · rw [if_pos q, if_pos ⟨rfl, rfl, q⟩]
      rfl
    · rw [if_neg q, if_neg (fun z => q z.2.2)]
      rfl
  rw [vr_step (x := (pc, L, (0, i) :: (2, r) :: st, h)) hc (Nat.ne_of_beq_eq_false rfl) (Nat.ne_of_beq_eq_false rfl) e]
  split <;> rfl
theorem v_ifnull {b : Nat} {r : Int} (hc : code pc = some (14, len, 0, (b : Int), [])) {h : dH} : vr sc d code (pc, L, (2, r) :: st, h) = if r < 1000000 then (if r < 0 then vr sc d code (b, L, st, h) else vr sc d code (pc + len, L, st, h)) else none := by
  have e : d_step sc (fun _ _ _ => none) (14, len, 0, (b : Int), []) (pc, L, (2, r) :: st, h) = if r < 1000000 then some (if r < 0 then b else pc + len, L, st, h) else none := by
    show ((if 2 = 2 ∧ r < 1000000 then some (if r < 0 then b else pc + len, L, st) else none).map (fun z => (z.1, z.2.1, z.2.2, h))) = _
    by_cases q : r < 1000000
    · rw [if_pos q, if_pos ⟨rfl, q⟩]
      rfl
    · rw [if_neg q, if_neg (fun z => q z.2)]
      rfl
  rw [vr_step (x := (pc, L, (2, r) :: st, h)) hc (Nat.ne_of_beq_eq_false rfl) (Nat.ne_of_beq_eq_false rfl) e]
  by_cases q : r < 1000000
  · rw [if_pos q, if_pos q]
    by_cases q2 : r < 0
    · rw [if_pos q2, if_pos q2]
      rfl
    · rw [if_neg q2, if_neg q2]
      rfl
  · rw [if_neg q, if_neg q]
    rfl
theorem n_congr {α : Type} {c : Prop} [Decidable c] {a b : Option α} (h : ¬ c → a = b) : (if c then none else a) = (if c then none else b) := by
  by_cases q : c
  · rw [if_pos q, if_pos q]
  · rw [if_neg q, if_neg q, h q]
theorem v_div {k : Nat} {x y w : Int} (hc : code pc = some (6, len, (k : Int), 0, [])) (hw : d_ibin k x y = if y = 0 then none else some w) {h : dH} : vr sc d code (pc, L, (0, y) :: (0, x) :: st, h) = if y = 0 then none else vr sc d code (pc + len, L, (0, w) :: st, h) := by
  have e : d_step sc (fun _ _ _ => none) (6, len, (k : Int), 0, []) (pc, L, (0, y) :: (0, x) :: st, h) = if y = 0 then none else some (pc + len, L, (0, w) :: st, h) := by
    show ((if 0 = 0 ∧ 0 = 0 then (d_ibin k x y).map (fun z => (pc + len, L, (0, z) :: st)) else none).map (fun z => (z.1, z.2.1, z.2.2, h))) = _
    rw [if_pos ⟨rfl, rfl⟩, hw]
    split <;> rfl
  rw [vr_step (x := (pc, L, (0, y) :: (0, x) :: st, h)) hc (Nat.ne_of_beq_eq_false rfl) (Nat.ne_of_beq_eq_false rfl) e]
  split <;> rfl
theorem v_ldiv {k : Nat} {x y w : Int} (hc : code pc = some (8, len, (k : Int), 0, [])) (hw : d_lbin k x y = if y = 0 then none else some w) {h : dH} : vr sc d code (pc, L, (1, y) :: (1, x) :: st, h) = if y = 0 then none else vr sc d code (pc + len, L, (1, w) :: st, h) := by
  have e : d_step sc (fun _ _ _ => none) (8, len, (k : Int), 0, []) (pc, L, (1, y) :: (1, x) :: st, h) = if y = 0 then none else some (pc + len, L, (1, w) :: st, h) := by
    show ((if 1 = 1 ∧ 1 = 1 then (d_lbin k x y).map (fun z => (pc + len, L, (1, z) :: st)) else none).map (fun z => (z.1, z.2.1, z.2.2, h))) = _
    rw [if_pos ⟨rfl, rfl⟩, hw]
    split <;> rfl
  rw [vr_step (x := (pc, L, (1, y) :: (1, x) :: st, h)) hc (Nat.ne_of_beq_eq_false rfl) (Nat.ne_of_beq_eq_false rfl) e]
  split <;> rfl
theorem v_iinc {i : Nat} {b x : Int} (hc : code pc = some (5, len, (i : Int), b, [])) (hx : L[i]? = some (0, x)) (hp : pvl L i = true) {h : dH} : vr sc d code (pc, L, st, h) = vr sc d code (pc + len, L.set i (0, w32 (x + b)), st, h) := by
  have e1 : d_lset L i (0, w32 (x + b)) = L.set i (0, w32 (x + b)) := by
    unfold d_lset
    rw [if_neg (by dsimp only; omega)]
    congr 1
    unfold d_clr pvl at *
    cases i with
    | zero => rfl
    | succ j =>
      have hp : (match L[j]? with | some v => !(v.1 == 1) | none => true) = true := hp
      show (match L[j]? with | some v => if v.1 = 1 then L.set j (3, 0) else L | none => L) = L
      cases hL : L[j]? with
      | none => rfl
      | some v =>
        rw [hL] at hp
        have hp : (!(v.1 == 1)) = true := hp
        show (if v.1 = 1 then L.set j (3, 0) else L) = L
        rw [if_neg (by simpa using hp)]
  have e : d_step sc (fun _ _ _ => none) (5, len, (i : Int), b, []) (pc, L, st, h) = some (pc + len, L.set i (0, w32 (x + b)), st, h) := by
    have e2 : d_fr 5 len (i : Int) b [] pc L st = some (pc + len, L.set i (0, w32 (x + b)), st) := by
      have : d_fr 5 len (i : Int) b [] pc L st = (match L[(i : Int).toNat]? with | some v => if v.1 = 0 then some (pc + len, d_lset L (i : Int).toNat (0, w32 (v.2 + b)), st) else none | none => none) := by
        cases st <;> rfl
      rw [this, show (i : Int).toNat = i by omega, hx]
      show (if 0 = 0 then some (pc + len, d_lset L i (0, w32 (x + b)), st) else none) = _
      rw [if_pos rfl, e1]
    show ((d_fr 5 len (i : Int) b [] pc L st).map (fun z => (z.1, z.2.1, z.2.2, h))) = _
    rw [e2]
    rfl
  rw [vr_step (x := (pc, L, st, h)) hc (Nat.ne_of_beq_eq_false rfl) (Nat.ne_of_beq_eq_false rfl) e]
  rfl
end VL
