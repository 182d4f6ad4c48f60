/-! the shape of the heap once both objects are made (wip/whole/gen50.py) -/
def K0 : List (Nat × Nat) := [(6, 12), (5, 10), (8, 5), (8, 5), (8, 5), (8, 6), (8, 6), (10, 6), (0, 2), (8, 12), (0, 2), (8, 12), (0, 2), (8, 12), (0, 2), (8, 12), (0, 2), (8, 12), (0, 2), (8, 12), (5, 10), (8, 5), (8, 5), (8, 5), (8, 6), (8, 6), (10, 6), (0, 2), (8, 12), (0, 2), (8, 12), (0, 2), (8, 12), (0, 2), (8, 12), (0, 2), (8, 12), (0, 2), (8, 12), (5, 10), (8, 5), (8, 5), (8, 5), (8, 6), (8, 6), (10, 6), (0, 2), (8, 12), (0, 2), (8, 12), (0, 2), (8, 12), (0, 2), (8, 12), (0, 2), (8, 12), (0, 2), (8, 12), (2, 5), (11, 6), (8, 6), (8, 40), (0, 2), (8, 12), (4, 4), (8, 160), (8, 160), (8, 3), (4, 4), (8, 160), (8, 160), (8, 3), (4, 4), (8, 160), (8, 160), (8, 3), (4, 4), (8, 160), (8, 160), (8, 3), (4, 4), (8, 160), (8, 160), (8, 3), (4, 4), (8, 160), (8, 160), (8, 3), (1, 8), (8, 160), (12, 4), (0, 2), (8, 12), (0, 2), (8, 12), (0, 2), (8, 12), (8, 5), (8, 64), (3, 3), (8, 40), (3, 3), (8, 40), (3, 3), (8, 40), (3, 3), (8, 40), (7, 46), (8, 960), (8, 6), (8, 160), (8, 15), (8, 18), (8, 72), (8, 24), (8, 12), (8, 34), (8, 30), (8, 15), (8, 18), (8, 72), (9, 4), (8, 4), (8, 4), (8, 160)]
def SKL : List (Int × Int × Int) := [(0, 0, 1), (0, 1, 20), (0, 2, 39), (0, 4, 58), (0, 5, 88), (0, 6, 90), (0, 7, 91), (0, 8, 93), (0, 9, 95), (0, 10, 97), (0, 11, 98), (1, 4, 2), (1, 5, 3), (1, 6, 4), (1, 7, 5), (1, 8, 6), (1, 9, 7), (7, 0, 8), (7, 1, 10), (7, 2, 12), (7, 3, 14), (7, 4, 16), (7, 5, 18), (20, 4, 21), (20, 5, 22), (20, 6, 23), (20, 7, 24), (20, 8, 25), (20, 9, 26), (26, 0, 27), (26, 1, 29), (26, 2, 31), (26, 3, 33), (26, 4, 35), (26, 5, 37), (39, 4, 40), (39, 5, 41), (39, 6, 42), (39, 7, 43), (39, 8, 44), (39, 9, 45), (45, 0, 46), (45, 1, 48), (45, 2, 50), (45, 3, 52), (45, 4, 54), (45, 5, 56), (8, 0, 9), (10, 0, 11), (12, 0, 13), (14, 0, 15), (16, 0, 17), (18, 0, 19), (27, 0, 28), (29, 0, 30), (31, 0, 32), (33, 0, 34), (35, 0, 36), (37, 0, 38), (46, 0, 47), (48, 0, 49), (50, 0, 51), (52, 0, 53), (54, 0, 55), (56, 0, 57), (62, 0, 63), (91, 0, 92), (93, 0, 94), (95, 0, 96), (58, 0, 59), (58, 2, 60), (58, 3, 61), (58, 4, 62), (59, 0, 64), (64, 0, 65), (64, 1, 66), (64, 2, 67), (59, 1, 68), (68, 0, 69), (68, 1, 70), (68, 2, 71), (59, 2, 72), (72, 0, 73), (72, 1, 74), (72, 2, 75), (59, 3, 76), (76, 0, 77), (76, 1, 78), (76, 2, 79), (59, 4, 80), (80, 0, 81), (80, 1, 82), (80, 2, 83), (59, 5, 84), (84, 0, 85), (84, 1, 86), (84, 2, 87), (88, 0, 89), (90, 0, 99), (99, 0, 100), (90, 1, 101), (101, 0, 102), (90, 2, 103), (103, 0, 104), (90, 3, 105), (105, 0, 106), (107, 1, 108), (107, 2, 109), (107, 5, 110), (107, 9, 111), (107, 10, 112), (107, 11, 113), (107, 28, 114), (107, 30, 115), (107, 31, 116), (107, 32, 117), (107, 35, 118), (107, 36, 119), (107, 37, 120), (107, 42, 121), (107, 43, 122), (107, 44, 123), (107, 45, 124)]
def KNL : List Int := [8, 10, 12, 14, 16, 18, 27, 29, 31, 33, 35, 37, 46, 48, 50, 52, 54, 56, 62, 91, 93, 95]
def Sk (M : dM) : Prop := ∀ q ∈ SKL, M q.1 q.2.1 = q.2.2
def isK (r : Int) : Prop := r ∈ KNL
theorem isK_kc {r : Int} (h : isK r) : kc K0 r = some (0, 2) ∧ kc K0 (r + 1) = some (8, 12) := by
  have key : ∀ r ∈ KNL, kc K0 r = some (0, 2) ∧ kc K0 (r + 1) = some (8, 12) := by decide +kernel
  exact key r h
theorem isK_row {M : dM} (hs : Sk M) {r : Int} (h : isK r) : M r 0 = r + 1 := by
  have key : ∀ r ∈ KNL, (r, 0, r + 1) ∈ SKL := by decide +kernel
  exact hs _ (key r h)
theorem isK_rng {r : Int} (h : isK r) : 8 ≤ r ∧ r ≤ 95 := by
  have key : ∀ r ∈ KNL, 8 ≤ r ∧ r ≤ 95 := by decide +kernel
  exact key r h
/-- slots that hold no reference -/
def isRf (r k : Int) : Bool := SKL.any (fun q => q.1 == r && q.2.1 == k)
theorem Sk_of {M M' : dM} (hs : Sk M) (h : ∀ r k : Int, isRf r k = true → M' r k = M r k) : Sk M' := by
  intro q hq
  rw [h q.1 q.2.1 (by
    unfold isRf
    rw [List.any_eq_true]
    exact ⟨q, hq, by simp⟩)]
  exact hs q hq
theorem isRf_kn {r : Int} (h : isK r) : isRf r 1 = false ∧ ∀ k : Int, isRf (r + 1) k = false := by
  have key : ∀ r ∈ KNL, isRf r 1 = false ∧ ∀ q ∈ SKL, (q.1 == r + 1) = false := by decide +kernel
  refine ⟨(key r h).1, fun k => ?_⟩
  unfold isRf
  rw [List.any_eq_false]
  intro q hq
  rw [(key r h).2 q hq]
  simp
theorem og_kn {r : Int} (h : isK r) {b : Nat} (hb : b < 2) : og K0 0 r b = true := by
  unfold og
  rw [(isK_kc h).1]
  exact decide_eq_true ⟨rfl, by decide, hb⟩
theorem rg_kn {r : Int} (h : isK r) : rg K0 0 r = true := by
  unfold rg
  rw [(isK_kc h).1]
  rfl
theorem ag_kn {r i : Int} (h : isK r) (h0 : 0 ≤ i) (h1 : i < 12) : ag K0 8 (r + 1) i = true := by
  unfold ag
  rw [(isK_kc h).2]
  exact decide_eq_true ⟨rfl, h0, h1⟩
/-- what a run of an array is -/
def lst (f : Int → Int) (n : Nat) : List Int := (List.range n).map (fun i : Nat => f i)
theorem lst_0 (f : Int → Int) : lst f 0 = [] := rfl
theorem lst_s (f : Int → Int) (n : Nat) : lst f (n + 1) = lst f n ++ [f n] := by simp [lst, List.range_succ]
theorem lst_len (f : Int → Int) (n : Nat) : (lst f n).length = n := by simp [lst]
theorem lst_cg {f g : Int → Int} {n : Nat} (h : ∀ j : Int, 0 ≤ j → j < n → f j = g j) : lst f n = lst g n := by
  unfold lst
  apply List.map_congr_left
  intro i hi
  have := List.mem_range.mp hi
  exact h i (by omega) (by omega)
theorem lst_get (f : Int → Int) {n i : Nat} (h : i < n) : (lst f n)[i]? = some (f i) := by simp [lst, h]
theorem lst_eq {f g : Int → Int} {n : Nat} (h : lst f n = lst g n) : ∀ j : Int, 0 ≤ j → j < n → f j = g j := by
  intro j h0 h1
  have h2 := lst_get f (n := n) (i := j.toNat) (by omega)
  have h3 := lst_get g (n := n) (i := j.toNat) (by omega)
  rw [h, h3] at h2
  have := Option.some.inj h2
  rw [show ((j.toNat : Nat) : Int) = j by omega] at this
  exact this.symm
theorem d_up_at (M : dM) (a k v : Int) : d_up M a k v a k = v := by unfold d_up; rw [if_pos ⟨rfl, rfl⟩]
theorem d_up_n1 (M : dM) {a k v i j : Int} (h : i ≠ a) : d_up M a k v i j = M i j := by unfold d_up; rw [if_neg (fun z => h z.1)]
theorem d_up_n2 (M : dM) {a k v i j : Int} (h : j ≠ k) : d_up M a k v i j = M i j := by unfold d_up; rw [if_neg (fun z => h z.2)]
theorem w32_i {x : Int} (h1 : -2147483648 ≤ x) (h2 : x < 2147483648) : w32 x = x := w32_id ⟨h1, h2⟩
theorem vc_s {sc : dS} {d k : Nat} {md : dD} {av : List dV} {h : dH} {L : List dV} (hP : d_P k = some md) (hl : (d_ent av).length ≤ md.2.2.1) (hL : d_ent av ++ List.replicate (md.2.2.1 - (d_ent av).length) (3, 0) = L) : vc sc (d + 1) k av h = vr sc d (d_mcode md) (0, L, [], h) := by
  show (match d_P k with | none => none | some md => if (d_ent av).length ≤ md.2.2.1 then vr sc d (d_mcode md) (0, d_ent av ++ List.replicate (md.2.2.1 - (d_ent av).length) (3, 0), [], h) else none) = _
  rw [hP]
  dsimp only
  rw [if_pos hl, hL]
