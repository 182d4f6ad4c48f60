
/-! the interpreter: an instruction is (operation, length, a, b, targets) -/
abbrev dI : Type := Nat × Nat × Int × Int × List (Int × Nat)
abbrev dC : Type := Nat × List dV × List dV × dH
abbrev dS : Type := Nat × (Int → Int)
abbrev dF : Type := Nat → List dV → dH → Option (List dV × dH)
def d_ibin (k x y : Int) : Option Int :=
  if k = 0 then some (w32 (x + y)) else if k = 1 then some (w32 (x - y)) else if k = 2 then some (w32 (x * y))
  else if k = 3 then some (Int32.ofInt x &&& Int32.ofInt y).toInt else if k = 4 then some (Int32.ofInt x ||| Int32.ofInt y).toInt
  else if k = 5 then some (Int32.ofInt x ^^^ Int32.ofInt y).toInt
  else if k = 6 then some (Int32.ofInt x <<< (Int32.ofInt y &&& 31)).toInt
  else if k = 7 then some (Int32.ofInt x >>> (Int32.ofInt y &&& 31)).toInt
  else if k = 8 then some ((Int32.ofInt x).toUInt32 >>> ((Int32.ofInt y).toUInt32 &&& Int32.toUInt32 31)).toInt32.toInt
  else if k = 9 then (if y = 0 then none else some (w32 (x.tdiv y)))
  else (if y = 0 then none else some (w32 (x.tmod y)))
def d_lbin (k x y : Int) : Option Int :=
  if k = 0 then some (w64 (x + y)) else if k = 1 then some (w64 (x - y)) else if k = 2 then some (w64 (x * y))
  else if k = 3 then (if y = 0 then none else some (w64 (x.tdiv y)))
  else (if y = 0 then none else some (w64 (x.tmod y)))
def d_cond (k x y : Int) : Bool :=
  if k = 0 then decide (x = y) else if k = 1 then decide (¬ x = y) else if k = 2 then decide (x < y) else if k = 3 then decide (y ≤ x)
  else if k = 4 then decide (y < x) else decide (x ≤ y)
def d_conv (k : Int) (v : dV) : Option dV :=
  if k = 0 then (if v.1 = 0 then some (1, v.2) else none)
  else if k = 1 then (if v.1 = 1 then some (0, w32 v.2) else none)
  else if k = 2 then (if v.1 = 0 then some (0, (Int32.ofInt v.2).toInt8.toInt32.toInt) else none)
  else if k = 3 then (if v.1 = 0 then some (0, (Int32.ofInt v.2).toInt16.toInt32.toInt) else none)
  else (if v.1 = 0 then some (0, ((Int32.ofInt v.2).toUInt32 % 65536).toInt32.toInt) else none)
def d_clr (L : List dV) (i : Nat) : List dV := match i with
  | 0 => L
  | j + 1 => match L[j]? with
    | some v => if v.1 = 1 then L.set j (3, 0) else L
    | none => L
def d_lset (L : List dV) (i : Nat) (v : dV) : List dV := if v.1 = 1 then ((d_clr L i).set i v).set (i + 1) (3, 0) else (d_clr L i).set i v
def d_cell (h : dH) (r : Int) : Option (Nat × Nat) := if 0 ≤ r ∧ r < 1000000 then h.1[r.toNat]? else none
def d_sw (sw : List (Int × Nat)) (x : Int) (dflt : Nat) : Nat := match sw with
  | [] => dflt
  | q :: l => if q.1 = x then q.2 else d_sw l x dflt
def d_cat (st : List dV) : Nat := (st.map (fun v => if v.1 = 1 then 2 else 1)).sum
def d_above : List Int := [-1, 0, 0, 1, 2, 0]
def d_str0 : List Int := [104, 111, 108, 100, 115, 32, 116, 117, 114, 110, 115, 32, 42, 32, 52, 32, 43, 32, 115, 107, 105, 108, 108, 32, 59, 32, 108, 101, 97, 114, 110, 115, 32, 49, 32, 59, 32, 114, 101, 97, 100, 115, 32, 115, 107, 105, 108, 108, 32, 59]
def d_str1 : List Int := [116, 117, 114, 110, 115, 32, 115, 107, 105, 108, 108, 32, 119, 97, 108, 107, 32, 119, 101, 116, 32, 110, 117, 109, 98, 101, 114, 32, 100, 97, 121, 32, 104, 111, 108, 100, 115, 32, 108, 101, 97, 114, 110, 115, 32, 114, 101, 97, 100, 115, 32, 111, 114, 32, 97, 110, 100, 32, 110, 111, 116, 32]
def d_str (i : Nat) : List Int := if i = 0 then d_str0 else d_str1
def d_dfl (tag : Nat) (k : Nat) : Int := if tag < 8 then (if d_tg (d_ty tag k) = 2 then -1 else 0) else if tag < 10 then 0 else -1
def d_new (M : dM) (n : Nat) (tag : Nat) : dM := fun i j => if i = n then d_dfl tag j.toNat else M i j
/-- frames alone -/
def d_fr (op : Nat) (len : Nat) (a b : Int) (sw : List (Int × Nat)) (pc : Nat) (L st : List dV) : Option (Nat × List dV × List dV) :=
  match op, st with
  | 0, st => some (pc + len, L, (0, a) :: st)
  | 1, st => some (pc + len, L, (1, a) :: st)
  | 2, st => some (pc + len, L, (2, -1) :: st)
  | 3, st => match L[a.toNat]? with
    | some v => if v.1 = b.toNat then some (pc + len, L, v :: st) else none
    | none => none
  | 4, v :: st => if v.1 = b.toNat ∧ v.1 ≤ 2 ∧ a.toNat + (if v.1 = 1 then 1 else 0) < L.length then some (pc + len, d_lset L a.toNat v, st) else none
  | 5, st => match L[a.toNat]? with
    | some v => if v.1 = 0 then some (pc + len, d_lset L a.toNat (0, w32 (v.2 + b)), st) else none
    | none => none
  | 6, y :: x :: st => if y.1 = 0 ∧ x.1 = 0 then (d_ibin a x.2 y.2).map (fun z => (pc + len, L, (0, z) :: st)) else none
  | 7, x :: st => if x.1 = 0 then some (pc + len, L, (0, w32 (-x.2)) :: st) else none
  | 8, y :: x :: st => if y.1 = 1 ∧ x.1 = 1 then (d_lbin a x.2 y.2).map (fun z => (pc + len, L, (1, z) :: st)) else none
  | 9, x :: st => (d_conv a x).map (fun z => (pc + len, L, z :: st))
  | 10, y :: x :: st => if y.1 = 1 ∧ x.1 = 1 then some (pc + len, L, (0, if y.2 < x.2 then 1 else if x.2 = y.2 then 0 else -1) :: st) else none
  | 11, x :: st => if x.1 = 0 then some (if d_cond a x.2 0 then b.toNat else pc + len, L, st) else none
  | 12, y :: x :: st => if y.1 = 0 ∧ x.1 = 0 then some (if d_cond a x.2 y.2 then b.toNat else pc + len, L, st) else none
  | 13, st => some (b.toNat, L, st)
  | 14, x :: st => if x.1 = 2 ∧ x.2 < 1000000 then some (if x.2 < 0 then b.toNat else pc + len, L, st) else none
  | 15, x :: st => if x.1 = 0 then some (d_sw sw x.2 b.toNat, L, st) else none
  | 36, x :: st => if x.1 = 1 then none else some (pc + len, L, st)
  | 37, x :: st => if x.1 = 1 then none else some (pc + len, L, x :: x :: st)
  | 38, y :: x :: st => if y.1 = 1 ∨ x.1 = 1 then none else some (pc + len, L, y :: x :: y :: x :: st)
  | 33, st => some (pc + len, L, (2, a) :: st)
  | 41, st => some (pc + len, L, (0, 1) :: st)
  | 42, x :: st => if x.1 = 2 ∧ (x.2 = 1000002 ∨ x.2 = 1000003) then some (pc + len, L, (2, x.2 + 2) :: st) else none
  | 43, x :: st => if x.1 = 2 ∧ (x.2 = 1000002 ∨ x.2 = 1000003) then some (pc + len, L, (0, 0) :: st) else none
  | 44, x :: st => if x.1 = 2 ∧ (x.2 = 1000004 ∨ x.2 = 1000005) then some (pc + len, L, (0, (d_str (x.2 - 1000004).toNat).length) :: st) else none
  | 45, i :: x :: st => if i.1 = 0 ∧ x.1 = 2 ∧ (x.2 = 1000004 ∨ x.2 = 1000005) ∧ 0 ≤ i.2 ∧ i.2 < (d_str (x.2 - 1000004).toNat).length then some (pc + len, L, (0, (d_str (x.2 - 1000004).toNat).getD i.2.toNat 0) :: st) else none
  | 39, i :: x :: st => if i.1 = 0 ∧ x.1 = 2 ∧ x.2 = 1000000 ∧ 0 ≤ i.2 ∧ i.2 < 6 then some (pc + len, L, (0, d_above.getD i.2.toNat 0) :: st) else none
  | _, _ => none
/-- heaps; what the script holds -/
def d_hp (sc : dS) (op : Nat) (len : Nat) (a b : Int) (pc : Nat) (L st : List dV) (h : dH) : Option dC :=
  match op, st with
  | 16, x :: st => if x.1 = 2 then (match d_cell h x.2 with
    | some c => if c.1 = a.toNat ∧ c.1 < 8 ∧ b.toNat < c.2 then some (pc + len, L, (d_tg (d_ty c.1 b.toNat), h.2 x.2 b.toNat) :: st, h) else none
    | none => none) else none
  | 17, v :: x :: st => if x.1 = 2 then (match d_cell h x.2 with
    | some c => if c.1 = a.toNat ∧ c.1 < 8 ∧ b.toNat < c.2 ∧ v.1 = d_tg (d_ty c.1 b.toNat) ∧ (-2147483648 ≤ v.2 ∧ v.2 < 2147483648) ∧ (d_ty c.1 b.toNat = .boolean → v.2 = 0 ∨ v.2 = 1) then some (pc + len, L, st, (h.1, d_up h.2 x.2 b.toNat v.2)) else none
    | none => none) else none
  | 18, i :: x :: st => if i.1 = 0 ∧ x.1 = 2 then (match d_cell h x.2 with
    | some c => if c.1 = a.toNat ∧ (c.1 = 8 ∨ c.1 = 9) ∧ 0 ≤ i.2 ∧ i.2 < c.2 then some (pc + len, L, (0, h.2 x.2 i.2) :: st, h) else none
    | none => none) else none
  | 19, v :: i :: x :: st => if v.1 = 0 ∧ i.1 = 0 ∧ x.1 = 2 then (match d_cell h x.2 with
    | some c => if c.1 = a.toNat ∧ (c.1 = 8 ∨ c.1 = 9 ∧ (v.2 = 0 ∨ v.2 = 1)) ∧ 0 ≤ i.2 ∧ i.2 < c.2 then some (pc + len, L, st, (h.1, d_up h.2 x.2 i.2 v.2)) else none
    | none => none) else none
  | 22, i :: x :: st => if i.1 = 0 ∧ x.1 = 2 then (match d_cell h x.2 with
    | some c => if c.1 = a.toNat ∧ 10 ≤ c.1 ∧ 0 ≤ i.2 ∧ i.2 < c.2 then some (pc + len, L, (2, h.2 x.2 i.2) :: st, h) else none
    | none => none) else none
  | 23, v :: i :: x :: st => if v.1 = 2 ∧ i.1 = 0 ∧ x.1 = 2 then (match d_cell h x.2, d_cell h v.2 with
    | some c, some cv => if c.1 = a.toNat ∧ 10 ≤ c.1 ∧ cv.1 = b.toNat ∧ 0 ≤ i.2 ∧ i.2 < c.2 then some (pc + len, L, st, (h.1, d_up h.2 x.2 i.2 v.2)) else none
    | _, _ => none) else none
  | 24, x :: st => if x.1 = 2 then (match d_cell h x.2 with
    | some c => if 8 ≤ c.1 ∧ c.1 < 13 ∧ c.2 < 2147483648 then some (pc + len, L, (0, (c.2 : Int)) :: st, h) else none
    | none => none) else none
  | 25, st => if h.1.length < 1000000 then some (pc + len, L, (2, (h.1.length : Int)) :: st, (h.1 ++ [(a.toNat, b.toNat)], d_new h.2 h.1.length a.toNat)) else none
  | 26, x :: st => if h.1.length < 1000000 ∧ x.1 = 0 ∧ 0 ≤ x.2 ∧ x.2 < 1000000 then some (pc + len, L, (2, (h.1.length : Int)) :: st, (h.1 ++ [(a.toNat, x.2.toNat)], d_new h.2 h.1.length a.toNat)) else none
  | 27, x :: st => if h.1.length < 1000000 ∧ x.1 = 0 ∧ 0 ≤ x.2 ∧ x.2 < 1000000 then some (pc + len, L, (2, (h.1.length : Int)) :: st, (h.1 ++ [(a.toNat, x.2.toNat)], d_new h.2 h.1.length a.toNat)) else none
  | 29, x :: st => if x.1 = 2 ∧ 0 ≤ x.2 ∧ x.2 < 1000000 ∧ d_cat st ≤ 8 then some (pc + len, L, st, h) else none
  | 30, n :: j :: y :: i :: x :: st => if n.1 = 0 ∧ j.1 = 0 ∧ y.1 = 2 ∧ i.1 = 0 ∧ x.1 = 2 ∧ d_cat st ≤ 8 then (match d_cell h x.2, d_cell h y.2 with
    | some c, some cy => if c.1 = 8 ∧ cy.1 = 8 ∧ 0 ≤ n.2 ∧ 0 ≤ i.2 ∧ 0 ≤ j.2 ∧ i.2 + n.2 ≤ c.2 ∧ j.2 + n.2 ≤ cy.2 then
        some (pc + len, L, st, (h.1, fun p q => if p = y.2 ∧ j.2 ≤ q ∧ q < j.2 + n.2 then h.2 x.2 (i.2 + (q - j.2)) else h.2 p q)) else none
    | _, _ => none) else none
  | 40, i :: x :: st => if i.1 = 0 ∧ x.1 = 2 ∧ x.2 = 1000001 ∧ 0 ≤ i.2 ∧ i.2 < sc.1 ∧ (-2147483648 ≤ sc.2 i.2 ∧ sc.2 i.2 < 2147483648) then some (pc + len, L, (0, sc.2 i.2) :: st, h) else none
  | 34, x :: st => if x.1 = 2 ∧ x.2 = 1000001 ∧ sc.1 < 2147483648 then some (pc + len, L, (0, (sc.1 : Int)) :: st, h) else none
  | _, _ => none
/-- the receiver is of the class that is told; or one of the two texts -/
def d_rcv (h : dH) (sw : List (Int × Nat)) (av : List dV) : Bool := match sw, av with
  | [], _ => true
  | _ :: _, [] => false
  | q :: _, x :: _ => x.1 == 2 && (if q.1 = -1 then (x.2 == 1000002 || x.2 == 1000003) else (match d_cell h x.2 with
    | some c => decide ((c.1 : Int) = q.1)
    | none => false))
def d_step (sc : dS) (cf : dF) (ai : dI) (c : dC) : Option dC :=
  if ai.1 = 28 then
    (if ai.2.2.2.1.toNat ≤ c.2.2.1.length ∧ d_cat (c.2.2.1.drop ai.2.2.2.1.toNat) ≤ 8 ∧ d_rcv c.2.2.2 ai.2.2.2.2 (c.2.2.1.take ai.2.2.2.1.toNat).reverse = true then
      (match cf ai.2.2.1.toNat (c.2.2.1.take ai.2.2.2.1.toNat).reverse c.2.2.2 with
        | some r => some (c.1 + ai.2.1, c.2.1, r.1 ++ c.2.2.1.drop ai.2.2.2.1.toNat, r.2)
        | none => none) else none)
  else if ai.1 = 16 ∨ ai.1 = 17 ∨ ai.1 = 18 ∨ ai.1 = 19 ∨ (22 ≤ ai.1 ∧ ai.1 ≤ 27) ∨ ai.1 = 29 ∨ ai.1 = 30 ∨ ai.1 = 40 ∨ ai.1 = 34 then
    d_hp sc ai.1 ai.2.1 ai.2.2.1 ai.2.2.2.1 c.1 c.2.1 c.2.2.1 c.2.2.2
  else (d_fr ai.1 ai.2.1 ai.2.2.1 ai.2.2.2.1 ai.2.2.2.2 c.1 c.2.1 c.2.2.1).map (fun z => (z.1, z.2.1, z.2.2, c.2.2.2))
/-- what leaves a method: nothing (0), an int (1), a long (2), a boolean (3), a reference (4), a byte (5), a char (6) -/
def d_ret (k : Int) (st : List dV) (h : dH) : Option (List dV × dH) := match st with
  | [] => if k = 0 then some ([], h) else none
  | [v] => if k = 1 ∧ v.1 = 0 ∨ k = 2 ∧ v.1 = 1 ∨ k = 3 ∧ v.1 = 0 ∧ (v.2 = 0 ∨ v.2 = 1) ∨ k = 5 ∧ v.1 = 0 ∧ -128 ≤ v.2 ∧ v.2 < 128 ∨ k = 6 ∧ v.1 = 0 ∧ 0 ≤ v.2 ∧ v.2 < 65536 then some ([v], h) else none
  | _ => none
def d_run (sc : dS) (cf : dF) (code : Nat → Option dI) : Nat → dC → Option (List dV × dH)
  | 0, _ => none
  | n + 1, c => match code c.1 with
    | none => none
    | some ai => if ai.1 = 35 then d_ret ai.2.2.1 c.2.2.1 c.2.2.2 else
      match d_step sc cf ai c with
      | none => none
      | some c' => d_run sc cf code n c'
def d_ent (args : List dV) : List dV := args.flatMap (fun v => if v.1 = 1 then [v, (3, 0)] else [v])
/-- a method: its name, its code, its locals, its answer, its instructions by their places -/
abbrev dD : Type := MethodName × ByteArray × Nat × Option FieldType × List (Option dI)
def d_call (P : Nat → Option dD) (sc : dS) (N : Nat) : Nat → dF
  | 0 => fun _ _ _ => none
  | d + 1 => fun k args h => match P k with
    | none => none
    | some md => if (d_ent args).length ≤ md.2.2.1 then d_run sc (d_call P sc N d) (fun pc => (md.2.2.2.2[pc]?).join) N (0, d_ent args ++ List.replicate (md.2.2.1 - (d_ent args).length) (3, 0), [], h) else none
