/-! turned rows, spelt rows -/
def tA (a b : List Int) (n by_ : Nat) (i : Nat) : Bool := a.getD ((i + by_) % n) 0 == b.getD i 0
def tB (a b : List Int) (n by_ : Nat) (i : Nat) : Bool := a.getD i 0 == b.getD ((i + by_) % n) 0
def rotA (a b : List Int) (n : Nat) : Bool := (List.range' 0 n).any fun y => (List.range' 0 n).all (tA a b n y)
def rotB (a b : List Int) (n : Nat) : Bool := (List.range' 0 n).any fun y => (List.range' 0 n).all (tB a b n y)
theorem mem_r0 {n i : Nat} : i ∈ List.range' 0 n ↔ i < n := by
  rw [List.mem_range'_1]
  omega
theorem rot_iff (a b : List Int) (n : Nat) : rotA a b n = rotB a b n := by
  rw [Bool.eq_iff_iff]
  unfold rotA rotB
  rw [List.any_eq_true, List.any_eq_true]
  constructor
  · rintro ⟨y, hy, h⟩
    rw [mem_r0] at hy
    rw [List.all_eq_true] at h
    refine ⟨(n - y) % n, mem_r0.mpr (Nat.mod_lt _ (by omega)), List.all_eq_true.mpr fun k hk => ?_⟩
    rw [mem_r0] at hk
    have h1 := h ((k + (n - y) % n) % n) (mem_r0.mpr (Nat.mod_lt _ (by omega)))
    unfold tA at h1
    unfold tB
    have e : ((k + (n - y) % n) % n + y) % n = k := by
      rw [Nat.mod_add_mod, Nat.add_assoc, Nat.add_comm ((n - y) % n) y, ← Nat.add_assoc, Nat.add_mod_mod, show k + y + (n - y) = k + n by omega, Nat.add_mod_right, Nat.mod_eq_of_lt hk]
    rw [e] at h1
    exact h1
  · rintro ⟨y, hy, h⟩
    rw [mem_r0] at hy
    rw [List.all_eq_true] at h
    refine ⟨(n - y) % n, mem_r0.mpr (Nat.mod_lt _ (by omega)), List.all_eq_true.mpr fun k hk => ?_⟩
    rw [mem_r0] at hk
    have h1 := h ((k + (n - y) % n) % n) (mem_r0.mpr (Nat.mod_lt _ (by omega)))
    unfold tB at h1
    unfold tA
    have e : ((k + (n - y) % n) % n + y) % n = k := by
      rw [Nat.mod_add_mod, Nat.add_assoc, Nat.add_comm ((n - y) % n) y, ← Nat.add_assoc, Nat.add_mod_mod, show k + y + (n - y) = k + n by omega, Nat.add_mod_right, Nat.mod_eq_of_lt hk]
    rw [e] at h1
    exact h1
theorem turnedBy_loop {sc : dS} {d : Nat} {r q : Int} (hr : isK r) (hq : isK q) {M : dM} (hs : Sk M) {a b : List Int} (hl : a.length ≤ 12) (hab : b.length = a.length) (hka : KV r 1 (r + 1) M a) (hkb : KV q 1 (q + 1) M b) {y : Nat} (hy : y < a.length) : ∀ (m i : Nat) (q4 : dV), a.length - i = m → i ≤ a.length →
    vr sc d c_X0_isTurnedBy (2, [(2, r), (2, q), (0, (y : Int)), (0, (i : Int)), q4], [], (K0, M)) = some ([(0, if (List.range' i m).all (tA a b a.length y) = true then 1 else 0)], (K0, M)) := by
  have hrow := isK_row hs hr
  have hqow := isK_row hs hq
  intro m
  induction m with
  | zero =>
    intro i q4 hm hi
    have c1 : (a.length : Int) ≤ i := by omega
    rw [e_X0_isTurnedBy_2, if_pos (og_kn hr (by decide)), hka.1, if_pos c1]
    rfl
  | succ m ih =>
    intro i q4 hm hi
    have c1 : ¬ (a.length : Int) ≤ i := by omega
    have hi' : i < a.length := by omega
    have hb := hkb.get (i := i) (by omega)
    have key : ∀ (j : Nat), j = (i + y) % a.length → (if M (r + 1) j = M (q + 1) i then vr sc d c_X0_isTurnedBy (2, [(2, r), (2, q), (0, (y : Int)), (0, ((i + 1 : Nat) : Int)), (0, (j : Int))], [], (K0, M)) else some ([(0, 0)], (K0, M))) = some ([(0, if (List.range' i (m + 1)).all (tA a b a.length y) = true then 1 else 0)], (K0, M)) := by
      intro j hj
      have hj' : j < a.length := by rw [hj]; exact Nat.mod_lt _ (by omega)
      have ha := hka.get hj'
      have et : tA a b a.length y i = decide (M (r + 1) j = M (q + 1) i) := by
        unfold tA
        rw [ha, hb, ← hj, getD_get hj', getD_get (show i < b.length by omega)]
        rfl
      rw [List.range'_succ, List.all_cons, et]
      by_cases z : M (r + 1) j = M (q + 1) i
      · rw [if_pos z, decide_eq_true z, Bool.true_and]
        exact ih (i + 1) _ (by omega) (by omega)
      · rw [if_neg z, decide_eq_false z, Bool.false_and, if_neg (by decide)]
    rw [e_X0_isTurnedBy_2, if_pos (og_kn hr (by decide)), hka.1, if_neg c1, if_pos (og_kn hr (by decide)), w_ad i y (by omega) (by omega)]
    by_cases c2 : (a.length : Int) ≤ ((i + y : Nat) : Int)
    · have w : w32 (((i + y : Nat) : Int) - (a.length : Int)) = ((i + y - a.length : Nat) : Int) := w32_e (by omega) (by omega) (by omega)
      rw [if_pos c2, if_pos (og_kn hr (by decide)), if_pos (og_kn hr (by decide)), hrow, w]
      clear w
      rw [if_pos (ag_kn hr (by omega) (by omega)), if_pos (og_kn hq (by decide)), hqow, if_pos (ag_kn hq (by omega) (by omega)), w_s i (by omega)]
      exact key _ (by rw [Nat.mod_eq_sub_mod (by omega), Nat.mod_eq_of_lt (by omega)])
    · rw [if_neg c2, if_pos (og_kn hr (by decide)), hrow, if_pos (ag_kn hr (by omega) (by omega)), if_pos (og_kn hq (by decide)), hqow, if_pos (ag_kn hq (by omega) (by omega)), w_s i (by omega)]
      exact key _ (by rw [Nat.mod_eq_of_lt (by omega)])
theorem turned_loop {sc : dS} {d : Nat} {r q : Int} (hr : isK r) (hq : isK q) {M : dM} (hs : Sk M) {a b : List Int} (hl : a.length ≤ 12) (hab : b.length = a.length) (hka : KV r 1 (r + 1) M a) (hkb : KV q 1 (q + 1) M b) : ∀ (m y : Nat), a.length - y = m → y ≤ a.length →
    vr sc (d + 1) c_X0_isTurned (15, [(2, r), (2, q), (0, (y : Int))], [], (K0, M)) = some ([(0, if a.length = 0 ∨ ((List.range' y m).any fun y => (List.range' 0 a.length).all (tA a b a.length y)) = true then 1 else 0)], (K0, M)) := by
  intro m
  induction m with
  | zero =>
    intro y hm hy
    have c1 : (a.length : Int) ≤ y := by omega
    rw [e_X0_isTurned_15, if_pos (og_kn hr (by decide)), hka.1, if_pos c1, if_pos (og_kn hr (by decide))]
    by_cases z : a.length = 0
    · rw [if_neg (show ¬ ¬ (a.length : Int) = 0 by omega), if_pos (Or.inl z)]
    · rw [if_pos (show ¬ (a.length : Int) = 0 by omega), if_neg]
      rintro (h | h)
      · exact z h
      · cases h
  | succ m ih =>
    intro y hm hy
    have c1 : ¬ (a.length : Int) ≤ y := by omega
    rw [e_X0_isTurned_15, if_pos (og_kn hr (by decide)), hka.1, if_neg c1, if_pos (rg_kn hr), vc_s (md := m_X0_isTurnedBy) (L := [(2, r), (2, q), (0, (y : Int)), (3, 0), (3, 0)]) rfl (Nat.le_of_ble_eq_true rfl) rfl]
    show (vr sc d c_X0_isTurnedBy _).bind _ = _
    rw [e_X0_isTurnedBy_0]
    have := turnedBy_loop (sc := sc) (d := d) hr hq hs hl hab hka hkb (y := y) (by omega) a.length 0 (3, 0) rfl (by omega)
    rw [show ((0 : Nat) : Int) = 0 from rfl] at this
    rw [this, Option.bind_some]
    show vr sc (d + 1) c_X0_isTurned (29, [(2, r), (2, q), (0, (y : Int))], [(0, _)], (K0, M)) = _
    rw [e_X0_isTurned_29, List.range'_succ, List.any_cons]
    by_cases z : (List.range' 0 a.length).all (tA a b a.length y) = true
    · rw [if_pos z, if_neg (by decide), z, Bool.true_or, if_pos (Or.inr rfl)]
    · rw [if_neg z, if_pos rfl, Bool.eq_false_iff.mpr z, Bool.false_or, w_s y (by omega)]
      exact ih (y + 1) (by omega) (by omega)
def onef (a b : List Int) : Int := if a.length = b.length ∧ (a.length = 0 ∨ rotA a b a.length = true) then 1 else 0
theorem isTurned_ok {sc : dS} {d : Nat} {r q : Int} (hr : isK r) (hq : isK q) {M : dM} (hs : Sk M) {a b : List Int} (hl : a.length ≤ 12) (hka : KV r 1 (r + 1) M a) (hkb : KV q 1 (q + 1) M b) : vc sc (d + 2) 14 [(2, r), (2, q)] (K0, M) = some ([(0, onef a b)], (K0, M)) := by
  rw [vc_s (md := m_X0_isTurned) (L := [(2, r), (2, q), (3, 0)]) rfl (Nat.le_of_ble_eq_true rfl) rfl]
  show vr sc (d + 1) c_X0_isTurned _ = _
  rw [e_X0_isTurned_0, if_pos (og_kn hr (by decide)), if_pos (og_kn hq (by decide)), hka.1, hkb.1]
  unfold onef
  by_cases z : a.length = b.length
  · rw [if_pos (by omega)]
    have := turned_loop (sc := sc) (d := d) hr hq hs hl z.symm hka hkb a.length 0 rfl (by omega)
    rw [show ((0 : Nat) : Int) = 0 from rfl] at this
    rw [this]
    unfold rotA
    by_cases k : a.length = 0 ∨ ((List.range' 0 a.length).any fun y => (List.range' 0 a.length).all (tA a b a.length y)) = true
    · rw [if_pos k, if_pos ⟨z, k⟩]
    · rw [if_neg k, if_neg (fun h => k h.2)]
  · rw [if_neg (by omega), if_neg (fun h => z h.1)]
theorem ag_ot {i : Int} (h0 : 0 ≤ i) (h1 : i < 12) : ag K0 8 115 i = true := by
  unfold ag
  rw [show kc K0 115 = some (8, 12) from rfl]
  exact decide_eq_true ⟨rfl, h0, h1⟩
theorem Sk_m30 {M : dM} (h : Sk M) : M 107 30 = 115 := h (107, 30, 115) (by decide +kernel)
theorem w_md (a n : Nat) (ha : a < 1000000) : w32 (((a : Nat) : Int).tmod (n : Int)) = ((a % n : Nat) : Int) := by
  have h := Nat.mod_le a n
  exact w32_e (by rw [Int.tmod_eq_emod_of_nonneg (by omega)]; omega) (by omega) (by omega)
theorem mturned_loop {sc : dS} {d : Nat} {M : dM} (hs : Sk M) {a b : List Int} (hl : a.length ≤ 12) (hab : b.length = a.length) (hka : KV 107 29 114 M a) (hkb : lst (M 115) b.length = b) {y : Nat} (hy : y < a.length) : ∀ (m i : Nat), a.length - i = m → i ≤ a.length →
    vr sc d c_X7_isTurned (2, [(2, 107), (0, (y : Int)), (0, (i : Int))], [], (K0, M)) = some ([(0, if (List.range' i m).all (tB a b a.length y) = true then 1 else 0)], (K0, M)) := by
  intro m
  induction m with
  | zero =>
    intro i hm hi
    have c1 : (a.length : Int) ≤ i := by omega
    rw [e_X7_isTurned_2, if_pos (show og K0 7 107 29 = true from rfl), hka.1, if_pos c1]
    rfl
  | succ m ih =>
    intro i hm hi
    have c1 : ¬ (a.length : Int) ≤ i := by omega
    have c0 : ¬ (a.length : Int) = 0 := by omega
    have hi' : i < a.length := by omega
    have ha := hka.get hi'
    have hj : (i + y) % a.length < b.length := by rw [hab]; exact Nat.mod_lt _ (by omega)
    have hb := lst_get (M 115) hj
    rw [hkb, List.getElem?_eq_getElem hj] at hb
    have hb := (Option.some.inj hb).symm
    have et : tB a b a.length y i = decide (a[i] = b[(i + y) % a.length]) := by
      unfold tB
      rw [getD_get hj, getD_get hi']
      rfl
    rw [e_X7_isTurned_2, if_pos (show og K0 7 107 29 = true from rfl), hka.1, if_neg c1, if_pos (show og K0 7 107 28 = true from rfl), Sk_m28 hs, if_pos (ag_wd (by omega) (by omega)), if_pos (show og K0 7 107 30 = true from rfl), if_pos (show og K0 7 107 29 = true from rfl), if_neg c0, Sk_m30 hs, w_ad i y (by omega) (by omega), w_md _ _ (by omega), if_pos (ag_ot (by omega) (by omega)), ha, hb, List.range'_succ, List.all_cons, et, w_s i (by omega)]
    by_cases z : a[i] = b[(i + y) % a.length]
    · rw [if_pos z, decide_eq_true z, Bool.true_and]
      exact ih (i + 1) (by omega) (by omega)
    · rw [if_neg z, decide_eq_false z, Bool.false_and, if_neg (by decide)]
theorem mturned_ok {sc : dS} {d : Nat} {M : dM} (hs : Sk M) {a b : List Int} (hl : a.length ≤ 12) (hab : b.length = a.length) (hka : KV 107 29 114 M a) (hkb : lst (M 115) b.length = b) {y : Nat} (hy : y < a.length) : vc sc (d + 1) 162 [(2, 107), (0, (y : Int))] (K0, M) = some ([(0, if (List.range' 0 a.length).all (tB a b a.length y) = true then 1 else 0)], (K0, M)) := by
  rw [vc_s (md := m_X7_isTurned) (L := [(2, 107), (0, (y : Int)), (3, 0)]) rfl (Nat.le_of_ble_eq_true rfl) rfl]
  show vr sc d c_X7_isTurned _ = _
  rw [e_X7_isTurned_0]
  exact mturned_loop hs hl hab hka hkb hy a.length 0 rfl (by omega)
