/-! the law's loop -/
def sa (sc : dS) (i j : Nat) : Int := sc.2 ((i + j : Nat) : Int)
def LL (i : Nat) : List dV := [(2, 1000001), (2, 0), (2, 107), (0, (i : Int))]
def scOk (sc : dS) : Prop := sc.1 < 2147483648 ∧ ∀ j : Nat, j < sc.1 → R32 (sc.2 (j : Int))
theorem sa_R {sc : dS} (hs : scOk sc) {i j : Nat} (h : i + j < sc.1) : iR (sa sc i j) := hs.2 (i + j) h
def isI (o : Option dI) (op len : Nat) (a b : Int) (sw : List (Int × Nat)) : Bool := match o with
  | some ai => ai.1 == op && (ai.2.1 == len && (ai.2.2.1 == a && (ai.2.2.2.1 == b && ai.2.2.2.2 == sw)))
  | none => false
theorem isI_of {o : Option dI} {op len : Nat} {a b : Int} {sw : List (Int × Nat)} (h : isI o op len a b sw = true) : o = some (op, len, a, b, sw) := by
  cases o with
  | none => cases h
  | some ai =>
    obtain ⟨a1, a2, a3, a4, a5⟩ := ai
    have h : (a1 == op && (a2 == len && (a3 == a && (a4 == b && a5 == sw)))) = true := h
    rw [Bool.and_eq_true, Bool.and_eq_true, Bool.and_eq_true, Bool.and_eq_true] at h
    obtain ⟨h1, h2, h3, h4, h5⟩ := h
    rw [eq_of_beq h1, eq_of_beq h2, eq_of_beq h3, eq_of_beq h4, eq_of_beq h5]
noncomputable def argOk (pc j : Nat) : Bool := isI (c_L_law pc) 3 1 0 2 [] && (isI (c_L_law (pc + 1)) 3 1 3 0 [] && (isI (c_L_law (pc + 2)) 0 1 (j : Int) 0 [] && (isI (c_L_law (pc + 3)) 6 1 0 0 [] && isI (c_L_law (pc + 4)) 40 1 0 0 [])))
noncomputable def argsOk : Nat → Nat → Nat → Bool
  | 0, _, _ => true
  | a + 1, pc, j => argOk pc j && argsOk a (pc + 5) (j + 1)
theorem v_fr {sc : dS} {d : Nat} {code : Nat → Option dI} {pc op len : Nat} {a b : Int} {sw : List (Int × Nat)} {L st : List dV} {h : dH} {z : Nat × List dV × List dV} (hc : code pc = some (op, len, a, b, sw)) (h35 : op ≠ 35) (h28 : op ≠ 28) (hh : ¬ (op = 16 ∨ op = 17 ∨ op = 18 ∨ op = 19 ∨ (22 ≤ op ∧ op ≤ 27) ∨ op = 29 ∨ op = 30 ∨ op = 40 ∨ op = 34)) (hz : d_fr op len a b sw pc L st = some z) : vr sc d code (pc, L, st, h) = vr sc d code (z.1, z.2.1, z.2.2, h) := by
  have e : d_step sc (fun _ _ _ => none) (op, len, a, b, sw) (pc, L, st, h) = some (z.1, z.2.1, z.2.2, h) := by
    show (if op = 28 then _ else if (op = 16 ∨ op = 17 ∨ op = 18 ∨ op = 19 ∨ (22 ≤ op ∧ op ≤ 27) ∨ op = 29 ∨ op = 30 ∨ op = 40 ∨ op = 34) then _ else (d_fr op len a b sw pc L st).map (fun z => (z.1, z.2.1, z.2.2, h))) = _
    rw [if_neg h28, if_neg hh, hz]
    rfl
  rw [vr_step (x := (pc, L, st, h)) hc h35 h28 e]
  rfl
theorem v_load {sc : dS} {d : Nat} {code : Nat → Option dI} {pc len i t : Nat} {L st : List dV} {h : dH} {v : Int} (hc : code pc = some (3, len, (i : Int), (t : Int), [])) (hL : L[i]? = some (t, v)) : vr sc d code (pc, L, st, h) = vr sc d code (pc + len, L, (t, v) :: st, h) := by
  refine v_fr hc (by decide) (by decide) (by decide) (z := (pc + len, L, (t, v) :: st)) ?_
  have e : d_fr 3 len (i : Int) (t : Int) [] pc L st = (match L[(i : Int).toNat]? with
    | some v => if v.1 = (t : Int).toNat then some (pc + len, L, v :: st) else none
    | none => none) := by cases st <;> rfl
  rw [e, show (i : Int).toNat = i by omega, hL]
  show (if t = (t : Int).toNat then some (pc + len, L, (t, v) :: st) else none) = _
  rw [if_pos (by omega)]
theorem v_const {sc : dS} {d : Nat} {code : Nat → Option dI} {pc len : Nat} {a : Int} {L st : List dV} {h : dH} (hc : code pc = some (0, len, a, 0, [])) : vr sc d code (pc, L, st, h) = vr sc d code (pc + len, L, (0, a) :: st, h) :=
  v_fr hc (by decide) (by decide) (by decide) (z := (pc + len, L, (0, a) :: st)) (by cases st <;> rfl)
theorem v_bin {sc : dS} {d : Nat} {code : Nat → Option dI} {pc len : Nat} {a x y w : Int} {L st : List dV} {h : dH} (hc : code pc = some (6, len, a, 0, [])) (hw : d_ibin a x y = some w) : vr sc d code (pc, L, (0, y) :: (0, x) :: st, h) = vr sc d code (pc + len, L, (0, w) :: st, h) := by
  refine v_fr hc (by decide) (by decide) (by decide) (z := (pc + len, L, (0, w) :: st)) ?_
  show (if 0 = 0 ∧ 0 = 0 then (d_ibin a x y).map (fun z => (pc + len, L, ((0 : Nat), z) :: st)) else none) = _
  rw [if_pos ⟨rfl, rfl⟩, hw]
  rfl
theorem v_scr {sc : dS} {d : Nat} {code : Nat → Option dI} {pc len n : Nat} {L st : List dV} {h : dH} (hc : code pc = some (40, len, 0, 0, [])) (hs : scOk sc) (hn : n < sc.1) : vr sc d code (pc, L, (0, (n : Int)) :: (2, 1000001) :: st, h) = vr sc d code (pc + len, L, (0, sc.2 (n : Int)) :: st, h) := by
  have e : d_step sc (fun _ _ _ => none) (40, len, 0, 0, []) (pc, L, (0, (n : Int)) :: (2, 1000001) :: st, h) = some (pc + len, L, (0, sc.2 (n : Int)) :: st, h) := by
    show (if 0 = 0 ∧ 2 = 2 ∧ (1000001 : Int) = 1000001 ∧ 0 ≤ (n : Int) ∧ (n : Int) < (sc.1 : Int) ∧ (-2147483648 ≤ sc.2 (n : Int) ∧ sc.2 (n : Int) < 2147483648) then some (pc + len, L, ((0 : Nat), sc.2 (n : Int)) :: st, h) else none) = _
    rw [if_pos ⟨rfl, rfl, rfl, by omega, by omega, hs.2 n hn⟩]
  rw [vr_step (x := (pc, L, (0, (n : Int)) :: (2, 1000001) :: st, h)) hc (by show (40 : Nat) ≠ 35; decide) (by show (40 : Nat) ≠ 28; decide) e]
  rfl
theorem v_slen {sc : dS} {d : Nat} {code : Nat → Option dI} {pc len : Nat} {L st : List dV} {h : dH} (hc : code pc = some (34, len, 0, 0, [])) (hs : scOk sc) : vr sc d code (pc, L, (2, 1000001) :: st, h) = vr sc d code (pc + len, L, (0, (sc.1 : Int)) :: st, h) := by
  have e : d_step sc (fun _ _ _ => none) (34, len, 0, 0, []) (pc, L, (2, 1000001) :: st, h) = some (pc + len, L, (0, (sc.1 : Int)) :: st, h) := by
    show (if 2 = 2 ∧ (1000001 : Int) = 1000001 ∧ sc.1 < 2147483648 then some (pc + len, L, ((0 : Nat), (sc.1 : Int)) :: st, h) else none) = _
    rw [if_pos ⟨rfl, rfl, hs.1⟩]
  rw [vr_step (x := (pc, L, (2, 1000001) :: st, h)) hc (by show (34 : Nat) ≠ 35; decide) (by show (34 : Nat) ≠ 28; decide) e]
  rfl
theorem arg_1 {sc : dS} {d i pc j : Nat} {st : List dV} {h : dH} (hA : argOk pc j = true) (hs : scOk sc) (hb : i + j < sc.1) : vr sc d c_L_law (pc, LL i, st, h) = vr sc d c_L_law (pc + 5, LL i, (0, sa sc i j) :: st, h) := by
  unfold argOk at hA
  rw [Bool.and_eq_true, Bool.and_eq_true, Bool.and_eq_true, Bool.and_eq_true] at hA
  obtain ⟨e1, e2, e3, e4, e5⟩ := hA
  have e1 := isI_of e1
  have e2 := isI_of e2
  have e3 := isI_of e3
  have e4 := isI_of e4
  have e5 := isI_of e5
  have hb2 := hs.1
  have ew : d_ibin 0 (i : Int) (j : Int) = some ((i + j : Nat) : Int) := by
    show some (w32 ((i : Int) + (j : Int))) = _
    rw [w32_id (by unfold R32; omega)]
    rfl
  rw [v_load (i := 0) (t := 2) (L := LL i) e1 rfl, v_load (i := 3) (t := 0) (L := LL i) (pc := pc + 1) e2 rfl, v_const (pc := pc + 1 + 1) e3, v_bin (pc := pc + 1 + 1 + 1) e4 ew, v_scr (pc := pc + 1 + 1 + 1 + 1) e5 hs hb]
  rfl
def AV (sc : dS) (i j a : Nat) : List dV := (List.range' j a).map (fun n : Nat => ((0 : Nat), sa sc i n))
theorem AV_len (sc : dS) (i j a : Nat) : (AV sc i j a).length = a := by unfold AV; rw [List.length_map, List.length_range']
theorem args_1 {sc : dS} {d i : Nat} {h : dH} (hs : scOk sc) : ∀ (a pc j : Nat) (st : List dV), argsOk a pc j = true → i + j + a ≤ sc.1 → vr sc d c_L_law (pc, LL i, st, h) = vr sc d c_L_law (pc + 5 * a, LL i, (AV sc i j a).reverse ++ st, h) := by
  intro a
  induction a with
  | zero => intro pc j st _ _; rfl
  | succ a ih =>
    intro pc j st hA hb
    have hA : (argOk pc j && argsOk a (pc + 5) (j + 1)) = true := hA
    rw [Bool.and_eq_true] at hA
    rw [arg_1 hA.1 hs (by omega), ih (pc + 5) (j + 1) _ hA.2 (by omega), show pc + 5 + 5 * a = pc + 5 * (a + 1) by omega]
    have e : AV sc i j (a + 1) = (0, sa sc i j) :: AV sc i (j + 1) a := by
      unfold AV
      rw [List.range'_succ, List.map_cons]
    rw [e, List.reverse_cons, List.append_assoc]
    rfl
noncomputable def caseOk (T a kc kr tag : Nat) : Bool := isI (c_L_law T) 3 1 1 2 [] && (argsOk a (T + 1) 1 && (isI (c_L_law (T + 1 + 5 * a)) 28 3 (kc : Int) ((a + 1 : Nat) : Int) [(((6 : Nat) : Int), 0)] && (isI (c_L_law (T + 1 + 5 * a + 3)) 3 1 2 2 [] && (argsOk a (T + 1 + 5 * a + 3 + 1) 1 && (isI (c_L_law (T + 1 + 5 * a + 3 + 1 + 5 * a)) 28 3 (kr : Int) ((a + 1 : Nat) : Int) [(((7 : Nat) : Int), 0)] && (if tag = 0 then isI (c_L_law (T + 1 + 5 * a + 3 + 1 + 5 * a + 3)) 12 3 ((0 : Nat) : Int) ((1160 : Nat) : Int) [] else isI (c_L_law (T + 1 + 5 * a + 3 + 1 + 5 * a + 3)) 10 1 0 0 [] && isI (c_L_law (T + 1 + 5 * a + 3 + 1 + 5 * a + 3 + 1)) 11 3 ((0 : Nat) : Int) ((1160 : Nat) : Int) []))))))
theorem law_case {sc : dS} {d T a kc kr tag i : Nat} {M : dM} (hA : caseOk T a kc kr tag = true) (hs : scOk sc) (hb : i + 6 ≤ sc.1) (ha : a ≤ 5) (ht : tag = 0 ∨ tag = 1) (hB : Both kc kr tag (AV sc i 1 a)) (hI : Inv M) : ∃ M2, Inv M2 ∧ vr sc (d + 100) c_L_law (T, LL i, [], (K0, M)) = vr sc (d + 100) c_L_law (1160, LL i, [], (K0, M2)) := by
  unfold caseOk at hA
  rw [Bool.and_eq_true, Bool.and_eq_true, Bool.and_eq_true, Bool.and_eq_true, Bool.and_eq_true, Bool.and_eq_true] at hA
  obtain ⟨e1, e2, e3, e4, e5, e6, e7⟩ := hA
  have e1 := isI_of e1
  have e3 := isI_of e3
  have e4 := isI_of e4
  have e6 := isI_of e6
  obtain ⟨v, M1, M2, c1, c2, hI2⟩ := hB sc d M hI
  refine ⟨M2, hI2, ?_⟩
  have hl := AV_len sc i 1 a
  have hlr : (AV sc i 1 a).reverse.length = a := by rw [List.length_reverse, hl]
  have t1 : ((AV sc i 1 a).reverse ++ [((2 : Nat), (0 : Int))]).take (a + 1) = (AV sc i 1 a).reverse ++ [((2 : Nat), (0 : Int))] := List.take_of_length_le (by rw [List.length_append, hlr]; exact Nat.le_refl _)
  have t2 : ((AV sc i 1 a).reverse ++ [((2 : Nat), (0 : Int))]).drop (a + 1) = [] := List.drop_of_length_le (by rw [List.length_append, hlr]; exact Nat.le_refl _)
  have q : (AV sc i 1 a).reverse ++ ((2, 107) :: [(tag, v)]) = ((AV sc i 1 a).reverse ++ [((2 : Nat), (107 : Int))]) ++ [(tag, v)] := by rw [List.append_assoc]; rfl
  have t3 : ((AV sc i 1 a).reverse ++ ((2, 107) :: [(tag, v)])).take (a + 1) = (AV sc i 1 a).reverse ++ [((2 : Nat), (107 : Int))] := by
    rw [q]
    exact List.take_left' (by rw [List.length_append, hlr]; rfl)
  have t4 : ((AV sc i 1 a).reverse ++ ((2, 107) :: [(tag, v)])).drop (a + 1) = [(tag, v)] := by
    rw [q]
    exact List.drop_left' (by rw [List.length_append, hlr]; rfl)
  have n1 : a + 1 ≤ ((AV sc i 1 a).reverse ++ [((2 : Nat), (0 : Int))]).length := by rw [List.length_append, hlr]; exact Nat.le_refl _
  have n2 : a + 1 ≤ ((AV sc i 1 a).reverse ++ ((2, 107) :: [(tag, v)])).length := by rw [List.length_append, hlr]; exact Nat.add_le_add_left (by decide : 1 ≤ 2) a
  have r1 : (((AV sc i 1 a).reverse ++ [((2 : Nat), (0 : Int))]).take (a + 1)).reverse = (2, 0) :: AV sc i 1 a := by rw [t1, List.reverse_append, List.reverse_reverse]; rfl
  have r2 : (((AV sc i 1 a).reverse ++ ((2, 107) :: [(tag, v)])).take (a + 1)).reverse = (2, 107) :: AV sc i 1 a := by rw [t3, List.reverse_append, List.reverse_reverse]; rfl
  rw [v_load (i := 1) (t := 2) (L := LL i) e1 rfl, args_1 hs a _ 1 _ e2 (by omega), v_virt e3 n1 (by rw [t2]; decide) r1, if_pos (show rg K0 6 0 = true from rfl), c1, Option.bind_some, t2]
  show vr sc (d + 100) c_L_law (T + 1 + 5 * a + 3, LL i, [(tag, v)], (K0, M1)) = _
  rw [v_load (i := 2) (t := 2) (L := LL i) e4 rfl, args_1 hs a _ 1 _ e5 (by omega), v_virt e6 n2 (by rw [t4]; show (if tag = 1 then 2 else 1) + 0 ≤ 8; split <;> omega) r2, if_pos (show rg K0 7 107 = true from rfl), c2, Option.bind_some, t4]
  show vr sc (d + 100) c_L_law (T + 1 + 5 * a + 3 + 1 + 5 * a + 3, LL i, [(tag, v), (tag, v)], (K0, M2)) = _
  rcases ht with ht | ht
  · subst ht
    rw [if_pos (show (0 : Nat) = 0 from rfl)] at e7
    have e7 := isI_of e7
    rw [v_icmp (c := v = v) e7 rfl, if_pos rfl]
  · subst ht
    rw [if_neg (show ¬ (1 : Nat) = 0 by decide), Bool.and_eq_true] at e7
    have e8 := isI_of e7.1
    have e9 := isI_of e7.2
    have z : d_fr 10 1 0 0 [] (T + 1 + 5 * a + 3 + 1 + 5 * a + 3) (LL i) [(1, v), (1, v)] = some (T + 1 + 5 * a + 3 + 1 + 5 * a + 3 + 1, LL i, [(0, 0)]) := by
      show (if 1 = 1 ∧ 1 = 1 then some (T + 1 + 5 * a + 3 + 1 + 5 * a + 3 + 1, LL i, [((0 : Nat), (if v < v then (1 : Int) else if v = v then 0 else -1))]) else none) = _
      rw [if_pos ⟨rfl, rfl⟩, if_neg (Int.lt_irrefl v), if_pos rfl]
    rw [v_fr e8 (by decide) (by decide) (by decide) z]
    show vr sc (d + 100) c_L_law (T + 1 + 5 * a + 3 + 1 + 5 * a + 3 + 1, LL i, [(0, 0)], (K0, M2)) = _
    rw [v_if (c := (0 : Int) = 0) e9 rfl, if_pos rfl]
def SWL : List (Int × Nat) := [(0, 168), (1, 211), (2, 244), (3, 277), (4, 300), (5, 323), (6, 336), (7, 359), (8, 402), (9, 435), (10, 468), (11, 501), (12, 524), (13, 537), (14, 580), (15, 603), (16, 636), (17, 679), (18, 713), (19, 756), (20, 789), (21, 822), (22, 876), (23, 889), (24, 902), (25, 925), (26, 968), (27, 1011), (28, 1074), (29, 1127)]
theorem law_okc : caseOk 168 3 60 122 0 = true ∧ caseOk 211 2 62 124 0 = true ∧ caseOk 244 2 63 125 0 = true ∧ caseOk 277 1 64 146 0 = true ∧ caseOk 300 1 65 126 0 = true ∧ caseOk 323 0 66 143 0 = true ∧ caseOk 336 1 67 144 0 = true ∧ caseOk 359 3 68 157 0 = true ∧ caseOk 402 2 69 161 0 = true ∧ caseOk 435 2 71 158 0 = true ∧ caseOk 468 2 72 163 0 = true ∧ caseOk 501 1 73 166 0 = true ∧ caseOk 524 0 75 171 0 = true ∧ caseOk 537 3 76 176 0 = true ∧ caseOk 580 1 77 177 0 = true ∧ caseOk 603 2 78 180 0 = true ∧ caseOk 636 3 83 183 0 = true ∧ caseOk 679 2 85 185 1 = true ∧ caseOk 713 3 86 188 0 = true ∧ caseOk 756 2 93 189 0 = true ∧ caseOk 789 2 94 191 0 = true ∧ caseOk 822 4 96 192 1 = true ∧ caseOk 876 0 98 193 0 = true ∧ caseOk 889 0 99 194 0 = true ∧ caseOk 902 1 100 195 0 = true ∧ caseOk 925 3 101 197 0 = true ∧ caseOk 968 3 102 198 0 = true ∧ caseOk 1011 5 103 199 0 = true ∧ caseOk 1074 4 104 200 0 = true ∧ caseOk 1127 2 105 202 0 = true := by decide +kernel
theorem law_cases {sc : dS} {d i : Nat} {M : dM} (hs : scOk sc) (hb : i + 6 ≤ sc.1) (hI : Inv M) : ∀ q ∈ SWL, ∃ M2, Inv M2 ∧ vr sc (d + 100) c_L_law (q.2, LL i, [], (K0, M)) = vr sc (d + 100) c_L_law (1160, LL i, [], (K0, M2)) := by
  obtain ⟨k0, k1, k2, k3, k4, k5, k6, k7, k8, k9, k10, k11, k12, k13, k14, k15, k16, k17, k18, k19, k20, k21, k22, k23, k24, k25, k26, k27, k28, k29⟩ := law_okc
  unfold SWL
  refine List.forall_mem_cons.mpr ⟨law_case k0 hs hb (by decide) (by decide) (B_set (sa sc i 1) (sa sc i 2) (sa sc i 3)) hI, List.forall_mem_cons.mpr ⟨law_case k1 hs hb (by decide) (by decide) (B_lad (sa sc i 1) (sa sc i 2)) hI, List.forall_mem_cons.mpr ⟨law_case k2 hs hb (by decide) (by decide) (B_told (sa sc i 1) (sa sc i 2)) hI, List.forall_mem_cons.mpr ⟨law_case k3 hs hb (by decide) (by decide) (B_read (sa sc i 1)) hI, List.forall_mem_cons.mpr ⟨law_case k4 hs hb (by decide) (by decide) (B_feed (sa sc i 1)) hI, List.forall_mem_cons.mpr ⟨law_case k5 hs hb (by decide) (by decide) (B_text) hI, List.forall_mem_cons.mpr ⟨law_case k6 hs hb (by decide) (by decide) (B_force (sa sc i 1)) hI, List.forall_mem_cons.mpr ⟨law_case k7 hs hb (by decide) (by decide) (B_tie (sa sc i 1) (sa sc i 2) (sa sc i 3)) hI, List.forall_mem_cons.mpr ⟨law_case k8 hs hb (by decide) (by decide) (B_knot (sa sc i 1) (sa sc i 2)) hI, List.forall_mem_cons.mpr ⟨law_case k9 hs hb (by decide) (by decide) (B_ties (sa sc i 1) (sa sc i 2)) hI, List.forall_mem_cons.mpr ⟨law_case k10 hs hb (by decide) (by decide) (B_one (sa sc i 1) (sa sc i 2)) hI, List.forall_mem_cons.mpr ⟨law_case k11 hs hb (by decide) (by decide) (B_holds (sa sc i 1)) hI, List.forall_mem_cons.mpr ⟨law_case k12 hs hb (by decide) (by decide) (B_evening) hI, List.forall_mem_cons.mpr ⟨law_case k13 hs hb (by decide) (by decide) (B_run (sa sc i 1) (sa sc i 2) (sa sc i 3)) hI, List.forall_mem_cons.mpr ⟨law_case k14 hs hb (by decide) (by decide) (B_lasts (sa sc i 1)) hI, List.forall_mem_cons.mpr ⟨law_case k15 hs hb (by decide) (by decide) (B_best (sa sc i 1) (sa sc i 2)) hI, List.forall_mem_cons.mpr ⟨law_case k16 hs hb (by decide) (by decide) (B_shortest (sa sc i 1) (sa sc i 2) (sa sc i 3)) hI, List.forall_mem_cons.mpr ⟨law_case k17 hs hb (by decide) (by decide) (B_share (sa sc i 1) (sa sc i 2)) hI, List.forall_mem_cons.mpr ⟨law_case k18 hs hb (by decide) (by decide) (B_tells (sa sc i 1) (sa sc i 2) (sa sc i 3)) hI, List.forall_mem_cons.mpr ⟨law_case k19 hs hb (by decide) (by decide) (B_film (sa sc i 1) (sa sc i 2)) hI, List.forall_mem_cons.mpr ⟨law_case k20 hs hb (by decide) (by decide) (B_drawn (sa sc i 1) (sa sc i 2)) hI, List.forall_mem_cons.mpr ⟨law_case k21 hs hb (by decide) (by decide) (B_chance (sa sc i 1) (sa sc i 2) (sa sc i 3) (sa sc i 4)) hI, List.forall_mem_cons.mpr ⟨law_case k22 hs hb (by decide) (by decide) (B_image) hI, List.forall_mem_cons.mpr ⟨law_case k23 hs hb (by decide) (by decide) (B_back) hI, List.forall_mem_cons.mpr ⟨law_case k24 hs hb (by decide) (by decide) (B_count (sa sc i 1)) hI, List.forall_mem_cons.mpr ⟨law_case k25 hs hb (by decide) (by decide) (B_sheet (sa sc i 1) (sa sc i 2) (sa sc i 3) (sa_R hs (j := 3) (by omega))) hI, List.forall_mem_cons.mpr ⟨law_case k26 hs hb (by decide) (by decide) (B_cell (sa sc i 1) (sa sc i 2) (sa sc i 3)) hI, List.forall_mem_cons.mpr ⟨law_case k27 hs hb (by decide) (by decide) (B_copy (sa sc i 1) (sa sc i 2) (sa sc i 3) (sa sc i 4) (sa sc i 5) (sa_R hs (j := 5) (by omega))) hI, List.forall_mem_cons.mpr ⟨law_case k28 hs hb (by decide) (by decide) (B_guild (sa sc i 1) (sa sc i 2) (sa sc i 3) (sa sc i 4) (sa_R hs (j := 3) (by omega))) hI, List.forall_mem_cons.mpr ⟨law_case k29 hs hb (by decide) (by decide) (B_taken (sa sc i 1) (sa sc i 2)) hI, fun q hq => by cases hq⟩⟩⟩⟩⟩⟩⟩⟩⟩⟩⟩⟩⟩⟩⟩⟩⟩⟩⟩⟩⟩⟩⟩⟩⟩⟩⟩⟩⟩⟩
theorem swf_P {P : dRes → Prop} {x : Int} {b : Nat} {f : Nat → dRes} : ∀ sw : List (Int × Nat), P (f b) → (∀ q ∈ sw, P (f q.2)) → P (swf sw x b f) := by
  intro sw
  induction sw with
  | nil => intro h _; exact h
  | cons q l ih =>
    intro h g
    show P (if x = q.1 then f q.2 else swf l x b f)
    by_cases e : x = q.1
    · rw [if_pos e]; exact g q List.mem_cons_self
    · rw [if_neg e]; exact ih h fun q hq => g q (List.mem_cons_of_mem _ hq)
def LKL : List (Nat × Nat × Nat × Int × Int × List (Int × Nat)) := [(18, 3, 1, 3, 0, []), (19, 3, 1, 0, 2, []), (20, 34, 1, 0, 0, []), (21, 0, 2, 6, 0, []), (23, 6, 1, 1, 0, []), (24, 12, 3, 4, 1166, []), (27, 3, 1, 0, 2, []), (28, 3, 1, 3, 0, []), (29, 40, 1, 0, 0, []), (30, 0, 2, 31, 0, []), (32, 6, 1, 3, 0, []), (33, 15, 135, 0, 1160, SWL), (1160, 5, 3, 3, 6, []), (1163, 13, 3, 0, 18, []), (1166, 0, 1, 1, 0, []), (1167, 35, 1, 3, 0, [])]
theorem law_kb : LKL.all (fun q => isI (c_L_law q.1) q.2.1 q.2.2.1 q.2.2.2.1 q.2.2.2.2.1 q.2.2.2.2.2) = true := by decide +kernel
theorem law_kq {n op len : Nat} {a b : Int} {sw : List (Int × Nat)} (h : (n, op, len, a, b, sw) ∈ LKL) : c_L_law n = some (op, len, a, b, sw) := isI_of (List.all_eq_true.mp law_kb _ h)
theorem law_k : c_L_law 18 = some (3, 1, 3, 0, []) ∧ c_L_law 19 = some (3, 1, 0, 2, []) ∧ c_L_law 20 = some (34, 1, 0, 0, []) ∧ c_L_law 21 = some (0, 2, 6, 0, []) ∧ c_L_law 23 = some (6, 1, 1, 0, []) ∧ c_L_law 24 = some (12, 3, 4, 1166, []) ∧ c_L_law 27 = some (3, 1, 0, 2, []) ∧ c_L_law 28 = some (3, 1, 3, 0, []) ∧ c_L_law 29 = some (40, 1, 0, 0, []) ∧ c_L_law 30 = some (0, 2, 31, 0, []) ∧ c_L_law 32 = some (6, 1, 3, 0, []) ∧ c_L_law 33 = some (15, 135, 0, 1160, SWL) ∧ c_L_law 1160 = some (5, 3, 3, 6, []) ∧ c_L_law 1163 = some (13, 3, 0, 18, []) ∧ c_L_law 1166 = some (0, 1, 1, 0, []) ∧ c_L_law 1167 = some (35, 1, 3, 0, []) := by
  refine ⟨?_, ?_, ?_, ?_, ?_, ?_, ?_, ?_, ?_, ?_, ?_, ?_, ?_, ?_, ?_, ?_⟩ <;> exact law_kq (by simp [LKL])
theorem law_loop {sc : dS} {d : Nat} (hs : scOk sc) : ∀ (m i : Nat) (M : dM), sc.1 - i ≤ m → i ≤ sc.1 → Inv M → ∃ M', vr sc (d + 100) c_L_law (18, LL i, [], (K0, M)) = some ([(0, 1)], (K0, M')) := by
  obtain ⟨k1, k2, k3, k4, k5, k6, k7, k8, k9, k10, k11, k12, k13, k14, k15, k16⟩ := law_k
  have h1 := hs.1
  intro m
  induction m with
  | zero =>
    intro i M hm hi hI
    have e : d_ibin 1 (sc.1 : Int) 6 = some ((sc.1 : Int) - 6) := by
      show some (w32 ((sc.1 : Int) - 6)) = _
      rw [w32_id (by unfold R32; omega)]
    rw [v_load (i := 3) (t := 0) (L := LL i) k1 rfl, v_load (i := 0) (t := 2) (L := LL i) (pc := 18 + 1) k2 rfl, v_slen (pc := 18 + 1 + 1) k3 hs, v_const (pc := 18 + 1 + 1 + 1) k4, v_bin (pc := 18 + 1 + 1 + 1 + 2) k5 e, v_icmp (pc := 18 + 1 + 1 + 1 + 2 + 1) (k := 4) (b := 1166) (c := (sc.1 : Int) - 6 < (i : Int)) k6 rfl, if_pos (by omega), v_const k15, vr_ret (x := (1166 + 1, LL i, [(0, 1)], (K0, M))) k16 rfl]
    exact ⟨M, rfl⟩
  | succ m ih =>
    intro i M hm hi hI
    have e : d_ibin 1 (sc.1 : Int) 6 = some ((sc.1 : Int) - 6) := by
      show some (w32 ((sc.1 : Int) - 6)) = _
      rw [w32_id (by unfold R32; omega)]
    rw [v_load (i := 3) (t := 0) (L := LL i) k1 rfl, v_load (i := 0) (t := 2) (L := LL i) (pc := 18 + 1) k2 rfl, v_slen (pc := 18 + 1 + 1) k3 hs, v_const (pc := 18 + 1 + 1 + 1) k4, v_bin (pc := 18 + 1 + 1 + 1 + 2) k5 e, v_icmp (pc := 18 + 1 + 1 + 1 + 2 + 1) (k := 4) (b := 1166) (c := (sc.1 : Int) - 6 < (i : Int)) k6 rfl]
    by_cases p : (sc.1 : Int) - 6 < (i : Int)
    · rw [if_pos p, v_const k15, vr_ret (x := (1166 + 1, LL i, [(0, 1)], (K0, M))) k16 rfl]
      exact ⟨M, rfl⟩
    · rw [if_neg p]
      have hb : i + 6 ≤ sc.1 := by omega
      have tail : ∀ M2 : dM, Inv M2 → ∃ M', vr sc (d + 100) c_L_law (1160, LL i, [], (K0, M2)) = some ([(0, 1)], (K0, M')) := by
        intro M2 hI2
        rw [v_iinc (i := 3) (b := 6) (x := (i : Int)) (L := LL i) k13 rfl rfl, show w32 ((i : Int) + 6) = ((i + 6 : Nat) : Int) from by
          rw [w32_id (by unfold R32; omega)]
          rfl, v_fr (pc := 1160 + 3) (L := (LL i).set 3 (0, ((i + 6 : Nat) : Int))) (st := []) k14 (by decide) (by decide) (by decide) (z := (18, LL (i + 6), [])) rfl]
        show ∃ M', vr sc (d + 100) c_L_law (18, LL (i + 6), [], (K0, M2)) = some ([(0, 1)], (K0, M'))
        exact ih (i + 6) M2 (by omega) hb hI2
      rw [v_load (i := 0) (t := 2) (L := LL i) (pc := 18 + 1 + 1 + 1 + 2 + 1 + 3) k7 rfl, v_load (i := 3) (t := 0) (L := LL i) (pc := 18 + 1 + 1 + 1 + 2 + 1 + 3 + 1) k8 rfl, v_scr (pc := 18 + 1 + 1 + 1 + 2 + 1 + 3 + 1 + 1) k9 hs (by omega), v_const (pc := 18 + 1 + 1 + 1 + 2 + 1 + 3 + 1 + 1 + 1) k10, v_bin (pc := 18 + 1 + 1 + 1 + 2 + 1 + 3 + 1 + 1 + 1 + 2) k11 (w := i_and (sc.2 (i : Int)) 31) rfl, v_sw (pc := 18 + 1 + 1 + 1 + 2 + 1 + 3 + 1 + 1 + 1 + 2 + 1) (b := 1160) k12]
      refine swf_P (P := fun r => ∃ M', r = some ([(0, 1)], (K0, M'))) SWL (tail M hI) fun q hq => ?_
      obtain ⟨M2, hI2, g⟩ := law_cases (d := d) hs hb hI q hq
      show ∃ M', vr sc (d + 100) c_L_law (q.2, LL i, [], (K0, M)) = some ([(0, 1)], (K0, M'))
      rw [g]
      exact tail M2 hI2
theorem law_true {sc : dS} {d : Nat} (hs : scOk sc) : ∃ M', vr sc (d + 160) c_L_law x00 = some ([(0, 1)], (K0, M')) := by
  obtain ⟨M, hI, e⟩ := law_start sc (d + 100)
  obtain ⟨M', g⟩ := law_loop (d := d + 60) hs sc.1 0 M (by omega) (by omega) hI
  refine ⟨M', ?_⟩
  rw [show d + 160 = 60 + (d + 100) by omega, e, show 60 + (d + 100) = d + 60 + 100 by omega]
  exact g
