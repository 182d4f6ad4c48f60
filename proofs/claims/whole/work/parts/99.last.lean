
theorem d_if {α : Type} {c : Prop} [Decidable c] {x y : α} (h : (if c then some x else none) = some y) : c ∧ x = y := by
  by_cases hc : c
  · rw [if_pos hc] at h
    exact ⟨hc, Option.some.inj h⟩
  · rw [if_neg hc] at h
    cases h
theorem d_cat2 (G : dG) (v : dV) : (d_cv G v).category = 2 ↔ v.1 = 1 := by
  unfold d_cv
  by_cases h0 : v.1 = 0
  · rw [if_pos h0]
    simp [Value.category, h0]
  · rw [if_neg h0]
    by_cases h1 : v.1 = 1
    · rw [if_pos h1]
      simp [Value.category, h1]
    · rw [if_neg h1]
      cases d_rf G v.2 <;> simp [va_rf, Value.category, h1]
theorem d_cat1 (G : dG) {v : dV} (h : v.1 ≠ 1) : (d_cv G v).category = 1 := by
  rcases lv_cat (d_cv G v) with q | q
  · exact q
  · exact absurd ((d_cat2 G v).mp q) h
def d_lv (G : dG) (L : List dV) : List (Nat × Value) := L.zipIdx.filterMap (fun q => if q.1.1 ≤ 2 then some (q.2, d_cv G q.1) else none)
theorem d_lv_mem {G : dG} {L : List dV} {i : Nat} {v : dV} (h : L[i]? = some v) (h2 : v.1 ≤ 2) : (i, d_cv G v) ∈ d_lv G L := by
  unfold d_lv
  refine List.mem_filterMap.mpr ⟨(v, i), ?_, by simp [h2]⟩
  exact List.mem_iff_getElem?.mpr ⟨i, by simp [List.getElem?_zipIdx, h]⟩
theorem d_lv_of {G : dG} {L : List dV} {q : Nat × Value} (h : q ∈ d_lv G L) : ∃ v : dV, L[q.1]? = some v ∧ v.1 ≤ 2 ∧ q.2 = d_cv G v := by
  unfold d_lv at h
  obtain ⟨⟨v, i⟩, hm, he⟩ := List.mem_filterMap.mp h
  obtain ⟨h2, rfl⟩ := d_if he
  obtain ⟨k, hk⟩ := List.mem_iff_getElem?.mp hm
  rw [List.getElem?_zipIdx] at hk
  obtain ⟨w, hw, e⟩ := Option.map_eq_some_iff.mp hk
  cases e
  refine ⟨v, ?_, h2, rfl⟩
  show L[0 + k]? = some v
  rw [Nat.zero_add]
  exact hw
theorem d_has_lv {G : dG} {ls : Array Slot} {nL : Nat} {L : List dV} (h : d_has G ls nL L) : lv_has ls nL (d_lv G L) := by
  refine ⟨h.1, h.2.2.1, fun q hq => ?_⟩
  obtain ⟨v, hv, h2, e⟩ := d_lv_of hq
  rw [e]
  exact h.2.2.2 _ _ hv h2
theorem d_clr_len (L : List dV) (i : Nat) : (d_clr L i).length = L.length := by
  unfold d_clr
  cases i with
  | zero => rfl
  | succ j =>
    show (match L[j]? with | some v => if v.1 = 1 then L.set j (3, 0) else L | none => L).length = _
    cases L[j]? with
    | none => rfl
    | some v =>
      show (if v.1 = 1 then L.set j (3, 0) else L).length = _
      split <;> simp
theorem d_clr_get {L : List dV} {i j : Nat} {w : dV} (h : (d_clr L i)[j]? = some w) (h2 : w.1 ≤ 2) : L[j]? = some w ∧ ¬ (j + 1 = i ∧ w.1 = 1) := by
  unfold d_clr at h
  cases i with
  | zero => exact ⟨h, fun z => by omega⟩
  | succ k =>
    have h : (match L[k]? with | some v => if v.1 = 1 then L.set k (3, 0) else L | none => L)[j]? = some w := h
    cases hk : L[k]? with
    | none =>
      rw [hk] at h
      refine ⟨h, fun z => ?_⟩
      have : j = k := by omega
      subst this
      have h : L[j]? = some w := h
      rw [hk] at h
      cases h
    | some v =>
      rw [hk] at h
      have h : (if v.1 = 1 then L.set k (3, 0) else L)[j]? = some w := h
      by_cases hv : v.1 = 1
      · rw [if_pos hv] at h
        by_cases hj : j = k
        · subst hj
          rw [List.getElem?_set_self (List.getElem?_eq_some_iff.mp hk).1] at h
          cases h
          exact absurd h2 (by decide)
        · rw [List.getElem?_set_ne (fun e => hj e.symm)] at h
          exact ⟨h, fun z => hj (by omega)⟩
      · rw [if_neg hv] at h
        refine ⟨h, fun z => ?_⟩
        have e : j = k := by omega
        have h : L[j]? = some w := h
        rw [e, hk] at h
        cases h
        exact hv z.2
theorem d_clr_rv {L : List dV} {i : Nat} (h : ∀ v ∈ L, d_rv v) : ∀ v ∈ d_clr L i, d_rv v := by
  unfold d_clr
  cases i with
  | zero => exact h
  | succ j =>
    show ∀ v ∈ (match L[j]? with | some v => if v.1 = 1 then L.set j (3, 0) else L | none => L), d_rv v
    cases L[j]? with
    | none => exact h
    | some w =>
      show ∀ v ∈ (if w.1 = 1 then L.set j (3, 0) else L), d_rv v
      split
      · intro w hw
        rcases List.mem_or_eq_of_mem_set hw with q | q
        · exact h w q
        · subst q
          show R32 0
          unfold R32
          omega
      · exact h
theorem d_lset_rv {L : List dV} {i : Nat} {v : dV} (h : ∀ w ∈ L, d_rv w) (hv : d_rv v) : ∀ w ∈ d_lset L i v, d_rv w := by
  unfold d_lset
  split
  · intro w hw
    rcases List.mem_or_eq_of_mem_set hw with q | q
    · rcases List.mem_or_eq_of_mem_set q with q | q
      · exact d_clr_rv h w q
      · subst q; exact hv
    · subst q
      show R32 0
      unfold R32
      omega
  · intro w hw
    rcases List.mem_or_eq_of_mem_set hw with q | q
    · exact d_clr_rv h w q
    · subst q; exact hv
theorem d_has_1 {G : dG} {ls ls' : Array Slot} {nL : Nat} {L : List dV} {i : Nat} {v : dV} (h : d_has G ls nL L) (hv : v.1 ≠ 1) (hi : i < L.length) (h' : lv_has ls' nL ((i, d_cv G v) :: (d_lv G L).filter (fun q => !(q.1 == i) && !(q.1 + 1 == i && q.2.category == 2)))) : d_has G ls' nL (d_lset L i v) := by
  unfold d_lset
  rw [if_neg hv]
  refine ⟨h'.1, by rw [List.length_set, d_clr_len]; exact h.2.1, h'.2.1, fun j w hj h2 => ?_⟩
  by_cases hij : j = i
  · subst hij
    rw [List.getElem?_set_self (by rw [d_clr_len]; exact hi)] at hj
    cases hj
    exact h'.2.2 _ List.mem_cons_self
  · rw [List.getElem?_set_ne (fun e => hij e.symm)] at hj
    obtain ⟨g1, g2⟩ := d_clr_get hj h2
    refine h'.2.2 (j, d_cv G w) (List.mem_cons_of_mem _ (List.mem_filter.mpr ⟨d_lv_mem g1 h2, ?_⟩))
    have g3 : ¬ (j + 1 = i ∧ (d_cv G w).category = 2) := fun z => g2 ⟨z.1, (d_cat2 G w).mp z.2⟩
    simp [hij]
    exact Decidable.not_and_iff_or_not.mp g3
theorem d_has_2 {G : dG} {ls ls' : Array Slot} {nL : Nat} {L : List dV} {i : Nat} {v : dV} (h : d_has G ls nL L) (hv : v.1 = 1) (hi : i + 1 < L.length) (h' : lv_has ls' nL ((i, d_cv G v) :: (d_lv G L).filter (fun q => !(q.1 == i) && (!(q.1 == i + 1) && !(q.1 + 1 == i && q.2.category == 2))))) : d_has G ls' nL (d_lset L i v) := by
  unfold d_lset
  rw [if_pos hv]
  refine ⟨h'.1, by rw [List.length_set, List.length_set, d_clr_len]; exact h.2.1, h'.2.1, fun j w hj h2 => ?_⟩
  by_cases hij1 : j = i + 1
  · subst hij1
    rw [List.getElem?_set_self (by rw [List.length_set, d_clr_len]; exact hi)] at hj
    cases hj
    exact absurd h2 (by decide)
  rw [List.getElem?_set_ne (fun e => hij1 e.symm)] at hj
  by_cases hij : j = i
  · subst hij
    rw [List.getElem?_set_self (by rw [d_clr_len]; omega)] at hj
    cases hj
    exact h'.2.2 _ List.mem_cons_self
  · rw [List.getElem?_set_ne (fun e => hij e.symm)] at hj
    obtain ⟨g1, g2⟩ := d_clr_get hj h2
    refine h'.2.2 (j, d_cv G w) (List.mem_cons_of_mem _ (List.mem_filter.mpr ⟨d_lv_mem g1 h2, ?_⟩))
    have g3 : ¬ (j + 1 = i ∧ (d_cv G w).category = 2) := fun z => g2 ⟨z.1, (d_cat2 G w).mp z.2⟩
    simp [hij, hij1]
    exact Decidable.not_and_iff_or_not.mp g3
theorem d_sw_off : ∀ (sw : List (Int × Nat)) (x : Int) (dflt : Nat) (d : Int) (pc : Int) (ps : List (Int × Int)), ps.map (fun q => (q.1, pc + q.2)) = sw.map (fun q => (q.1, (q.2 : Int))) → pc + d = (dflt : Int) → pc + Op.lookupswitch.offset ps d x = (d_sw sw x dflt : Nat) := by
  intro sw
  induction sw with
  | nil =>
    intro x dflt d pc ps h hd
    have : ps = [] := by simpa using h
    subst this
    simpa [d_sw, Op.lookupswitch.offset] using hd
  | cons q l ih =>
    intro x dflt d pc ps h hd
    cases ps with
    | nil => simp at h
    | cons r ps =>
      simp only [List.map_cons, List.cons.injEq, Prod.mk.injEq] at h
      obtain ⟨⟨e1, e2⟩, h⟩ := h
      obtain ⟨r1, r2⟩ := r
      rw [Op.lookupswitch.offset_cons]
      show pc + (if _ then _ else _) = ((if q.1 = x then q.2 else d_sw l x dflt : Nat) : Int)
      dsimp only at e1 e2 ⊢
      by_cases hq : q.1 = x
      · rw [if_pos hq, if_pos (by rw [e1, hq])]
        exact e2
      · rw [if_neg hq, if_neg (fun z => hq (by rw [← e1]; first | exact z | exact z.symm))]
        exact ih x dflt d pc ps h hd

theorem i32_div {x y : Int} (hx : R32 x) (hy : R32 y) : Int32.ofInt (w32 (x.tdiv y)) = Int32.ofInt x / Int32.ofInt y := by
  rw [i32_wr]
  have e : Int32.maxValue.toInt = 2147483647 := rfl
  exact Int32.ofInt_tdiv hx.1 (by have := hx.2; omega) hy.1 (by have := hy.2; omega)
theorem i32_rem {x y : Int} (hx : R32 x) (hy : R32 y) : Int32.ofInt (w32 (x.tmod y)) = Int32.ofInt x - Int32.ofInt x / Int32.ofInt y * Int32.ofInt y := by
  rw [i32_wr, ← i32_div hx hy, i32_wr, ← Int32.ofInt_mul, ← Int32.ofInt_sub]
  congr 1
  have := Int.mul_tdiv_add_tmod x y
  rw [Int.mul_comm] at this
  omega
theorem i64_div {x y : Int} (hx : R64 x) (hy : R64 y) : Int64.ofInt (w64 (x.tdiv y)) = Int64.ofInt x / Int64.ofInt y := by
  rw [i64_wr]
  have e : Int64.maxValue.toInt = 9223372036854775807 := rfl
  exact Int64.ofInt_tdiv hx.1 (by have := hx.2; omega) hy.1 (by have := hy.2; omega)
theorem i64_rem {x y : Int} (hx : R64 x) (hy : R64 y) : Int64.ofInt (w64 (x.tmod y)) = Int64.ofInt x - Int64.ofInt x / Int64.ofInt y * Int64.ofInt y := by
  rw [i64_wr, ← i64_div hx hy, i64_wr, ← Int64.ofInt_mul, ← Int64.ofInt_sub]
  congr 1
  have := Int.mul_tdiv_add_tmod x y
  rw [Int.mul_comm] at this
  omega

theorem d_sw_out : ∀ (sw : List (Int × Nat)) (x : Int) (b : Nat), (∀ q ∈ sw, q.1 ≠ x) → d_sw sw x b = b := by
  intro sw
  induction sw with
  | nil => intro x b _; rfl
  | cons q l ih =>
    intro x b h
    show (if q.1 = x then q.2 else d_sw l x b) = b
    rw [if_neg (h q List.mem_cons_self)]
    exact ih x b (fun r hr => h r (List.mem_cons_of_mem _ hr))
theorem d_sw_app : ∀ (l1 l2 : List (Int × Nat)) (x : Int) (b : Nat), d_sw (l1 ++ l2) x b = d_sw l1 x (d_sw l2 x b) := by
  intro l1
  induction l1 with
  | nil => intro l2 x b; rfl
  | cons q l ih =>
    intro l2 x b
    show (if q.1 = x then q.2 else d_sw (l ++ l2) x b) = (if q.1 = x then q.2 else d_sw l x (d_sw l2 x b))
    rw [ih]
theorem d_sw_in {lo x : Int} {n b : Nat} (g : Nat → Nat) (j : Nat) (hj : j < n) (hx : x = lo + j) : d_sw ((List.range n).map (fun i : Nat => (lo + (i : Int), g i))) x b = g j := by
  induction n with
  | zero => omega
  | succ n ih =>
    rw [List.range_succ, List.map_append, d_sw_app]
    by_cases h : j = n
    · subst h
      rw [d_sw_out]
      · show (if lo + (j : Int) = x then g j else b) = g j
        rw [if_pos hx.symm]
      · intro q hq
        obtain ⟨i, hi, rfl⟩ := List.mem_map.mp hq
        have := List.mem_range.mp hi
        show lo + (i : Int) ≠ x
        omega
    · have e : d_sw (List.map (fun i : Nat => (lo + (i : Int), g i)) [n]) x b = b := by
        show (if lo + (n : Int) = x then g n else b) = b
        rw [if_neg (by omega)]
      rw [e]
      exact ih (by omega)
section DFR
variable {own : String} {cc : ByteArray} {nL pc : Nat}
theorem rf_iconst {n v : Int} (hd : decode cc pc = .ok (.iconst n, 1)) (hv : Int32.ofInt n = Int32.ofInt v) (hr : R32 v) : d_RF own cc nL pc 0 1 v 0 [] := by
  rintro p l e R s m args below meth c G sc Q H locs cells slots L st L' st' pc' ls ⟨hx, hb, hml, hown, hts, hF, hS0⟩ hS hs hl1 hl2 hL
  cases (show some (pc + 1, L, (0, v) :: st) = some (pc', L', st') from hs)
  exact ⟨hl1, d_rv_cons (d_rv_0 hr) hl2, fun k => lv_iconst (v := Int32.ofInt v) hx hb hd hv (k ls hL)⟩

theorem rf_bipush {n v : Int} (hd : decode cc pc = .ok (.bipush n, 2)) (hv : (Int8.ofInt n).toInt32 = Int32.ofInt v) (hr : R32 v) : d_RF own cc nL pc 0 2 v 0 [] := by
  rintro p l e R s m args below meth c G sc Q H locs cells slots L st L' st' pc' ls ⟨hx, hb, hml, hown, hts, hF, hS0⟩ hS hs hl1 hl2 hL
  cases (show some (pc + 2, L, (0, v) :: st) = some (pc', L', st') from hs)
  exact ⟨hl1, d_rv_cons (d_rv_0 hr) hl2, fun k => lv_bipush (v := Int32.ofInt v) hx hb hd hv (k ls hL)⟩

theorem rf_sipush {n v : Int} (hd : decode cc pc = .ok (.sipush n, 3)) (hv : (Int16.ofInt n).toInt32 = Int32.ofInt v) (hr : R32 v) : d_RF own cc nL pc 0 3 v 0 [] := by
  rintro p l e R s m args below meth c G sc Q H locs cells slots L st L' st' pc' ls ⟨hx, hb, hml, hown, hts, hF, hS0⟩ hS hs hl1 hl2 hL
  cases (show some (pc + 3, L, (0, v) :: st) = some (pc', L', st') from hs)
  exact ⟨hl1, d_rv_cons (d_rv_0 hr) hl2, fun k => lv_sipush (v := Int32.ofInt v) hx hb hd hv (k ls hL)⟩

theorem rf_ldc {i : Nat} {v : Int} (hd : decode cc pc = .ok (.ldc i, 2)) (hw : Cond.constant own i (Int32.ofInt v) ∈ lw_gd) (hr : R32 v) : d_RF own cc nL pc 0 2 v 0 [] := by
  rintro p l e R s m args below meth c G sc Q H locs cells slots L st L' st' pc' ls ⟨hx, hb, hml, hown, hts, hF, hS0⟩ hS hs hl1 hl2 hL
  cases (show some (pc + 2, L, (0, v) :: st) = some (pc', L', st') from hs)
  exact ⟨hl1, d_rv_cons (d_rv_0 hr) hl2, fun k => lv_ldc (v := Int32.ofInt v) hx hb hown (hts _ hw) hd (k ls hL)⟩

theorem rf_ldcw {i : Nat} {v : Int} (hd : decode cc pc = .ok (.ldc_w i, 3)) (hw : Cond.constant own i (Int32.ofInt v) ∈ lw_gd) (hr : R32 v) : d_RF own cc nL pc 0 3 v 0 [] := by
  rintro p l e R s m args below meth c G sc Q H locs cells slots L st L' st' pc' ls ⟨hx, hb, hml, hown, hts, hF, hS0⟩ hS hs hl1 hl2 hL
  cases (show some (pc + 3, L, (0, v) :: st) = some (pc', L', st') from hs)
  exact ⟨hl1, d_rv_cons (d_rv_0 hr) hl2, fun k => lv_ldcw (v := Int32.ofInt v) hx hb hown (hts _ hw) hd (k ls hL)⟩

theorem rf_lconst {n : Fin 2} {v : Int} (hd : decode cc pc = .ok (.lconst n, 1)) (hv : Int64.ofNat (n : Nat) = Int64.ofInt v) (hr : R64 v) : d_RF own cc nL pc 1 1 v 0 [] := by
  rintro p l e R s m args below meth c G sc Q H locs cells slots L st L' st' pc' ls ⟨hx, hb, hml, hown, hts, hF, hS0⟩ hS hs hl1 hl2 hL
  cases (show some (pc + 1, L, (1, v) :: st) = some (pc', L', st') from hs)
  exact ⟨hl1, d_rv_cons (d_rv_1 hr) hl2, fun k => lv_lconst (v := Int64.ofInt v) hx hb hd hv (k ls hL)⟩

theorem rf_ldc2 {i : Nat} {v : Int} (hd : decode cc pc = .ok (.ldc2_w i, 3)) (hw : Cond.constantLong own i (Int64.ofInt v) ∈ lw_gd) (hr : R64 v) : d_RF own cc nL pc 1 3 v 0 [] := by
  rintro p l e R s m args below meth c G sc Q H locs cells slots L st L' st' pc' ls ⟨hx, hb, hml, hown, hts, hF, hS0⟩ hS hs hl1 hl2 hL
  cases (show some (pc + 3, L, (1, v) :: st) = some (pc', L', st') from hs)
  exact ⟨hl1, d_rv_cons (d_rv_1 hr) hl2, fun k => lv_ldc2 (v := Int64.ofInt v) hx hb hown (hts _ hw) hd (k ls hL)⟩

theorem rf_null (hd : decode cc pc = .ok (.aconst_null, 1)) : d_RF own cc nL pc 2 1 0 0 [] := by
  rintro p l e R s m args below meth c G sc Q H locs cells slots L st L' st' pc' ls ⟨hx, hb, hml, hown, hts, hF, hS0⟩ hS hs hl1 hl2 hL
  cases (show some (pc + 1, L, (2, -1) :: st) = some (pc', L', st') from hs)
  exact ⟨hl1, d_rv_cons (d_rv_2 (by unfold R32; omega)) hl2, fun k => lv_null hx hb hd (k ls hL)⟩

theorem rf_iload_n {k : Fin 4} {i : Nat} (hd : decode cc pc = .ok (.iload_n k, 1)) (hi : (k : Nat) = i) : d_RF own cc nL pc 3 1 (i : Int) 0 [] := by
  rintro p l e R s m args below meth c G sc Q H locs cells slots L st L' st' pc' ls ⟨hx, hb, hml, hown, hts, hF, hS0⟩ hS hs hl1 hl2 hL
  have hs : (match L[i]? with | some v => if v.1 = 0 then some (pc + 1, L, v :: st) else none | none => none) = some (pc', L', st') := hs
  cases hv : L[i]? with
  | none => rw [hv] at hs; cases hs
  | some v =>
    rw [hv] at hs
    obtain ⟨v1, v2⟩ := v
    obtain ⟨ht, he⟩ := d_if (show (if v1 = 0 then some (pc + 1, L, (v1, v2) :: st) else none) = some (pc', L', st') from hs)
    subst ht
    cases he
    refine ⟨hl1, d_rv_cons (hl1 _ (List.mem_of_getElem? hv)) hl2, fun k => ?_⟩
    exact lv_iload_n hx hb hd hi (hL.2.2.2 i _ hv (Nat.le_of_ble_eq_true rfl)) (k ls hL)

theorem rf_iload  {i : Nat} (hd : decode cc pc = .ok (.iload i, 2))  : d_RF own cc nL pc 3 2 (i : Int) 0 [] := by
  rintro p l e R s m args below meth c G sc Q H locs cells slots L st L' st' pc' ls ⟨hx, hb, hml, hown, hts, hF, hS0⟩ hS hs hl1 hl2 hL
  have hs : (match L[i]? with | some v => if v.1 = 0 then some (pc + 2, L, v :: st) else none | none => none) = some (pc', L', st') := hs
  cases hv : L[i]? with
  | none => rw [hv] at hs; cases hs
  | some v =>
    rw [hv] at hs
    obtain ⟨v1, v2⟩ := v
    obtain ⟨ht, he⟩ := d_if (show (if v1 = 0 then some (pc + 2, L, (v1, v2) :: st) else none) = some (pc', L', st') from hs)
    subst ht
    cases he
    refine ⟨hl1, d_rv_cons (hl1 _ (List.mem_of_getElem? hv)) hl2, fun k => ?_⟩
    exact lv_iload hx hb hd  (hL.2.2.2 i _ hv (Nat.le_of_ble_eq_true rfl)) (k ls hL)

theorem rf_lload_n {k : Fin 4} {i : Nat} (hd : decode cc pc = .ok (.lload_n k, 1)) (hi : (k : Nat) = i) : d_RF own cc nL pc 3 1 (i : Int) 1 [] := by
  rintro p l e R s m args below meth c G sc Q H locs cells slots L st L' st' pc' ls ⟨hx, hb, hml, hown, hts, hF, hS0⟩ hS hs hl1 hl2 hL
  have hs : (match L[i]? with | some v => if v.1 = 1 then some (pc + 1, L, v :: st) else none | none => none) = some (pc', L', st') := hs
  cases hv : L[i]? with
  | none => rw [hv] at hs; cases hs
  | some v =>
    rw [hv] at hs
    obtain ⟨v1, v2⟩ := v
    obtain ⟨ht, he⟩ := d_if (show (if v1 = 1 then some (pc + 1, L, (v1, v2) :: st) else none) = some (pc', L', st') from hs)
    subst ht
    cases he
    refine ⟨hl1, d_rv_cons (hl1 _ (List.mem_of_getElem? hv)) hl2, fun k => ?_⟩
    exact lv_lload_n hx hb hd hi (hL.2.2.2 i _ hv (Nat.le_of_ble_eq_true rfl)) (k ls hL)

theorem rf_lload  {i : Nat} (hd : decode cc pc = .ok (.lload i, 2))  : d_RF own cc nL pc 3 2 (i : Int) 1 [] := by
  rintro p l e R s m args below meth c G sc Q H locs cells slots L st L' st' pc' ls ⟨hx, hb, hml, hown, hts, hF, hS0⟩ hS hs hl1 hl2 hL
  have hs : (match L[i]? with | some v => if v.1 = 1 then some (pc + 2, L, v :: st) else none | none => none) = some (pc', L', st') := hs
  cases hv : L[i]? with
  | none => rw [hv] at hs; cases hs
  | some v =>
    rw [hv] at hs
    obtain ⟨v1, v2⟩ := v
    obtain ⟨ht, he⟩ := d_if (show (if v1 = 1 then some (pc + 2, L, (v1, v2) :: st) else none) = some (pc', L', st') from hs)
    subst ht
    cases he
    refine ⟨hl1, d_rv_cons (hl1 _ (List.mem_of_getElem? hv)) hl2, fun k => ?_⟩
    exact lv_lload hx hb hd  (hL.2.2.2 i _ hv (Nat.le_of_ble_eq_true rfl)) (k ls hL)

theorem rf_aload_n {k : Fin 4} {i : Nat} (hd : decode cc pc = .ok (.aload_n k, 1)) (hi : (k : Nat) = i) : d_RF own cc nL pc 3 1 (i : Int) 2 [] := by
  rintro p l e R s m args below meth c G sc Q H locs cells slots L st L' st' pc' ls ⟨hx, hb, hml, hown, hts, hF, hS0⟩ hS hs hl1 hl2 hL
  have hs : (match L[i]? with | some v => if v.1 = 2 then some (pc + 1, L, v :: st) else none | none => none) = some (pc', L', st') := hs
  cases hv : L[i]? with
  | none => rw [hv] at hs; cases hs
  | some v =>
    rw [hv] at hs
    obtain ⟨v1, v2⟩ := v
    obtain ⟨ht, he⟩ := d_if (show (if v1 = 2 then some (pc + 1, L, (v1, v2) :: st) else none) = some (pc', L', st') from hs)
    subst ht
    cases he
    refine ⟨hl1, d_rv_cons (hl1 _ (List.mem_of_getElem? hv)) hl2, fun k => ?_⟩
    have hk := k ls hL
    have hg := hL.2.2.2 i _ hv (Nat.le_of_ble_eq_true rfl)
    rw [List.map_cons, d_cv_r] at hk
    rw [d_cv_r] at hg
    cases hq : d_rf G v2 with
    | none =>
      rw [hq] at hk hg
      exact lv_aload_nN hx hb hd hi hg hk
    | some q =>
      rw [hq] at hk hg
      exact lv_aload_n hx hb hd hi hg hk

theorem rf_aload  {i : Nat} (hd : decode cc pc = .ok (.aload i, 2))  : d_RF own cc nL pc 3 2 (i : Int) 2 [] := by
  rintro p l e R s m args below meth c G sc Q H locs cells slots L st L' st' pc' ls ⟨hx, hb, hml, hown, hts, hF, hS0⟩ hS hs hl1 hl2 hL
  have hs : (match L[i]? with | some v => if v.1 = 2 then some (pc + 2, L, v :: st) else none | none => none) = some (pc', L', st') := hs
  cases hv : L[i]? with
  | none => rw [hv] at hs; cases hs
  | some v =>
    rw [hv] at hs
    obtain ⟨v1, v2⟩ := v
    obtain ⟨ht, he⟩ := d_if (show (if v1 = 2 then some (pc + 2, L, (v1, v2) :: st) else none) = some (pc', L', st') from hs)
    subst ht
    cases he
    refine ⟨hl1, d_rv_cons (hl1 _ (List.mem_of_getElem? hv)) hl2, fun k => ?_⟩
    have hk := k ls hL
    have hg := hL.2.2.2 i _ hv (Nat.le_of_ble_eq_true rfl)
    rw [List.map_cons, d_cv_r] at hk
    rw [d_cv_r] at hg
    cases hq : d_rf G v2 with
    | none =>
      rw [hq] at hk hg
      exact lv_aloadN hx hb hd  hg hk
    | some q =>
      rw [hq] at hk hg
      exact lv_aload hx hb hd  hg hk

theorem rf_istore_n {k : Fin 4} {i : Nat} (hd : decode cc pc = .ok (.istore_n k, 1)) (hi : (k : Nat) = i) : d_RF own cc nL pc 4 1 (i : Int) 0 [] := by
  rintro p l e R s m args below meth c G sc Q H locs cells slots L st L' st' pc' ls ⟨hx, hb, hml, hown, hts, hF, hS0⟩ hS hs hl1 hl2 hL
  cases st with
  | nil => cases hs
  | cons v st =>
    obtain ⟨v1, v2⟩ := v
    obtain ⟨ht, he⟩ := d_if (show (if v1 = 0 ∧ v1 ≤ 2 ∧ i + (if v1 = 1 then 1 else 0) < L.length then some (pc + 1, d_lset L i (v1, v2), st) else none) = some (pc', L', st') from hs)
    obtain ⟨ht, -, hi2⟩ := ht
    subst ht
    cases he
    have hlen := hL.2.1
    refine ⟨d_lset_rv hl1 (d_rv_hd hl2), d_rv_tl hl2, fun k => ?_⟩
    exact lv_istore_n hx hb hd hi (d_has_lv hL) (by simp at hi2; omega) rfl (fun ls' hl' => k ls' (d_has_1 hL (fun z => by dsimp only at z; omega) (by simp at hi2; omega) hl'))

theorem rf_istore  {i : Nat} (hd : decode cc pc = .ok (.istore i, 2))  : d_RF own cc nL pc 4 2 (i : Int) 0 [] := by
  rintro p l e R s m args below meth c G sc Q H locs cells slots L st L' st' pc' ls ⟨hx, hb, hml, hown, hts, hF, hS0⟩ hS hs hl1 hl2 hL
  cases st with
  | nil => cases hs
  | cons v st =>
    obtain ⟨v1, v2⟩ := v
    obtain ⟨ht, he⟩ := d_if (show (if v1 = 0 ∧ v1 ≤ 2 ∧ i + (if v1 = 1 then 1 else 0) < L.length then some (pc + 2, d_lset L i (v1, v2), st) else none) = some (pc', L', st') from hs)
    obtain ⟨ht, -, hi2⟩ := ht
    subst ht
    cases he
    have hlen := hL.2.1
    refine ⟨d_lset_rv hl1 (d_rv_hd hl2), d_rv_tl hl2, fun k => ?_⟩
    exact lv_istore hx hb hd  (d_has_lv hL) (by simp at hi2; omega) rfl (fun ls' hl' => k ls' (d_has_1 hL (fun z => by dsimp only at z; omega) (by simp at hi2; omega) hl'))

theorem rf_lstore_n {k : Fin 4} {i : Nat} (hd : decode cc pc = .ok (.lstore_n k, 1)) (hi : (k : Nat) = i) : d_RF own cc nL pc 4 1 (i : Int) 1 [] := by
  rintro p l e R s m args below meth c G sc Q H locs cells slots L st L' st' pc' ls ⟨hx, hb, hml, hown, hts, hF, hS0⟩ hS hs hl1 hl2 hL
  cases st with
  | nil => cases hs
  | cons v st =>
    obtain ⟨v1, v2⟩ := v
    obtain ⟨ht, he⟩ := d_if (show (if v1 = 1 ∧ v1 ≤ 2 ∧ i + (if v1 = 1 then 1 else 0) < L.length then some (pc + 1, d_lset L i (v1, v2), st) else none) = some (pc', L', st') from hs)
    obtain ⟨ht, -, hi2⟩ := ht
    subst ht
    cases he
    have hlen := hL.2.1
    refine ⟨d_lset_rv hl1 (d_rv_hd hl2), d_rv_tl hl2, fun k => ?_⟩
    exact lv_lstore_n hx hb hd hi (d_has_lv hL) (by simp at hi2; omega) rfl (fun ls' hl' => k ls' (d_has_2 hL rfl (by simp at hi2; omega) hl'))

theorem rf_lstore  {i : Nat} (hd : decode cc pc = .ok (.lstore i, 2))  : d_RF own cc nL pc 4 2 (i : Int) 1 [] := by
  rintro p l e R s m args below meth c G sc Q H locs cells slots L st L' st' pc' ls ⟨hx, hb, hml, hown, hts, hF, hS0⟩ hS hs hl1 hl2 hL
  cases st with
  | nil => cases hs
  | cons v st =>
    obtain ⟨v1, v2⟩ := v
    obtain ⟨ht, he⟩ := d_if (show (if v1 = 1 ∧ v1 ≤ 2 ∧ i + (if v1 = 1 then 1 else 0) < L.length then some (pc + 2, d_lset L i (v1, v2), st) else none) = some (pc', L', st') from hs)
    obtain ⟨ht, -, hi2⟩ := ht
    subst ht
    cases he
    have hlen := hL.2.1
    refine ⟨d_lset_rv hl1 (d_rv_hd hl2), d_rv_tl hl2, fun k => ?_⟩
    exact lv_lstore hx hb hd  (d_has_lv hL) (by simp at hi2; omega) rfl (fun ls' hl' => k ls' (d_has_2 hL rfl (by simp at hi2; omega) hl'))

theorem rf_astore_n {k : Fin 4} {i : Nat} (hd : decode cc pc = .ok (.astore_n k, 1)) (hi : (k : Nat) = i) : d_RF own cc nL pc 4 1 (i : Int) 2 [] := by
  rintro p l e R s m args below meth c G sc Q H locs cells slots L st L' st' pc' ls ⟨hx, hb, hml, hown, hts, hF, hS0⟩ hS hs hl1 hl2 hL
  cases st with
  | nil => cases hs
  | cons v st =>
    obtain ⟨v1, v2⟩ := v
    obtain ⟨ht, he⟩ := d_if (show (if v1 = 2 ∧ v1 ≤ 2 ∧ i + (if v1 = 1 then 1 else 0) < L.length then some (pc + 1, d_lset L i (v1, v2), st) else none) = some (pc', L', st') from hs)
    obtain ⟨ht, -, hi2⟩ := ht
    subst ht
    cases he
    have hlen := hL.2.1
    refine ⟨d_lset_rv hl1 (d_rv_hd hl2), d_rv_tl hl2, fun k => ?_⟩
    have key := fun ls' hl' => k ls' (d_has_1 hL (fun z => by dsimp only at z; omega) (by simp at hi2; omega) hl')
    rw [List.map_cons, d_cv_r]
    rw [d_cv_r] at key
    cases hq : d_rf G v2 with
    | none =>
      rw [hq] at key
      exact lv_astore_nN hx hb hd hi (d_has_lv hL) (by simp at hi2; omega) rfl key
    | some q =>
      rw [hq] at key
      exact lv_astore_n hx hb hd hi (d_has_lv hL) (by simp at hi2; omega) rfl key

theorem rf_astore  {i : Nat} (hd : decode cc pc = .ok (.astore i, 2))  : d_RF own cc nL pc 4 2 (i : Int) 2 [] := by
  rintro p l e R s m args below meth c G sc Q H locs cells slots L st L' st' pc' ls ⟨hx, hb, hml, hown, hts, hF, hS0⟩ hS hs hl1 hl2 hL
  cases st with
  | nil => cases hs
  | cons v st =>
    obtain ⟨v1, v2⟩ := v
    obtain ⟨ht, he⟩ := d_if (show (if v1 = 2 ∧ v1 ≤ 2 ∧ i + (if v1 = 1 then 1 else 0) < L.length then some (pc + 2, d_lset L i (v1, v2), st) else none) = some (pc', L', st') from hs)
    obtain ⟨ht, -, hi2⟩ := ht
    subst ht
    cases he
    have hlen := hL.2.1
    refine ⟨d_lset_rv hl1 (d_rv_hd hl2), d_rv_tl hl2, fun k => ?_⟩
    have key := fun ls' hl' => k ls' (d_has_1 hL (fun z => by dsimp only at z; omega) (by simp at hi2; omega) hl')
    rw [List.map_cons, d_cv_r]
    rw [d_cv_r] at key
    cases hq : d_rf G v2 with
    | none =>
      rw [hq] at key
      exact lv_astoreN hx hb hd  (d_has_lv hL) (by simp at hi2; omega) rfl key
    | some q =>
      rw [hq] at key
      exact lv_astore hx hb hd  (d_has_lv hL) (by simp at hi2; omega) rfl key

theorem rf_iinc {i : Nat} {n : Int} (hd : decode cc pc = .ok (.iinc i n, 3)) : d_RF own cc nL pc 5 3 (i : Int) n [] := by
  rintro p l e R s m args below meth c G sc Q H locs cells slots L st L' st' pc' ls ⟨hx, hb, hml, hown, hts, hF, hS0⟩ hS hs hl1 hl2 hL
  have hs : (match L[i]? with | some v => if v.1 = 0 then some (pc + 3, d_lset L i (0, w32 (v.2 + n)), st) else none | none => none) = some (pc', L', st') := hs
  cases hv : L[i]? with
  | none => rw [hv] at hs; cases hs
  | some v =>
    rw [hv] at hs
    obtain ⟨v1, v2⟩ := v
    obtain ⟨ht, he⟩ := d_if (show (if v1 = 0 then some (pc + 3, d_lset L i (0, w32 (v2 + n)), st) else none) = some (pc', L', st') from hs)
    subst ht
    cases he
    have hil := (List.getElem?_eq_some_iff.mp hv).1
    have hlen := hL.2.1
    refine ⟨d_lset_rv hl1 (d_rv_0 (w32_R _)), hl2, fun k => ?_⟩
    obtain ⟨kk, hk⟩ := List.mem_iff_getElem?.mp (d_lv_mem (G := G) hv (Nat.le_of_ble_eq_true rfl))
    exact lv_iinc (v := Int32.ofInt (w32 (v2 + n))) hx hb hd (d_has_lv hL) hk (i32_add v2 n).symm (by omega) rfl (fun ls' hl' => k ls' (d_has_1 hL (fun z => by dsimp only at z; omega) hil hl'))

theorem rf_iadd (hd : decode cc pc = .ok (.iadd, 1)) : d_RF own cc nL pc 6 1 0 0 [] := by
  rintro p l e R s m args below meth c G sc Q H locs cells slots L st L' st' pc' ls ⟨hx, hb, hml, hown, hts, hF, hS0⟩ hS hs hl1 hl2 hL
  cases st with
  | nil => cases hs
  | cons y st => cases st with
    | nil => cases hs
    | cons x st =>
      obtain ⟨y1, y2⟩ := y
      obtain ⟨x1, x2⟩ := x
      have hs2 : (if y1 = 0 ∧ x1 = 0 then (d_ibin 0 x2 y2).map (fun z => (pc + 1, L, (0, z) :: st)) else none) = some (pc', L', st') := hs
      by_cases ht : y1 = 0 ∧ x1 = 0
      · rw [if_pos ht] at hs2
        obtain ⟨rfl, rfl⟩ := ht
        obtain ⟨z, hz, he⟩ := Option.map_eq_some_iff.mp hs2
        cases he
        have hy : R32 y2 := d_rv_hd hl2
        have hxr : R32 x2 := d_rv_hd (d_rv_tl hl2)
        have hz : some (w32 (x2 + y2)) = some z := hz
        cases hz
        refine ⟨hl1, d_rv_cons (d_rv_0 (w32_R _)) (d_rv_tl (d_rv_tl hl2)), fun k => ?_⟩
        refine lv_iadd hx hb hd ?_
        have := k ls hL
        rw [List.map_cons, d_cv_i, i32_add] at this
        exact this
      · rw [if_neg ht] at hs2
        cases hs2

theorem rf_isub (hd : decode cc pc = .ok (.isub, 1)) : d_RF own cc nL pc 6 1 1 0 [] := by
  rintro p l e R s m args below meth c G sc Q H locs cells slots L st L' st' pc' ls ⟨hx, hb, hml, hown, hts, hF, hS0⟩ hS hs hl1 hl2 hL
  cases st with
  | nil => cases hs
  | cons y st => cases st with
    | nil => cases hs
    | cons x st =>
      obtain ⟨y1, y2⟩ := y
      obtain ⟨x1, x2⟩ := x
      have hs2 : (if y1 = 0 ∧ x1 = 0 then (d_ibin 1 x2 y2).map (fun z => (pc + 1, L, (0, z) :: st)) else none) = some (pc', L', st') := hs
      by_cases ht : y1 = 0 ∧ x1 = 0
      · rw [if_pos ht] at hs2
        obtain ⟨rfl, rfl⟩ := ht
        obtain ⟨z, hz, he⟩ := Option.map_eq_some_iff.mp hs2
        cases he
        have hy : R32 y2 := d_rv_hd hl2
        have hxr : R32 x2 := d_rv_hd (d_rv_tl hl2)
        have hz : some (w32 (x2 - y2)) = some z := hz
        cases hz
        refine ⟨hl1, d_rv_cons (d_rv_0 (w32_R _)) (d_rv_tl (d_rv_tl hl2)), fun k => ?_⟩
        refine lv_isub hx hb hd ?_
        have := k ls hL
        rw [List.map_cons, d_cv_i, i32_sub] at this
        exact this
      · rw [if_neg ht] at hs2
        cases hs2

theorem rf_imul (hd : decode cc pc = .ok (.imul, 1)) : d_RF own cc nL pc 6 1 2 0 [] := by
  rintro p l e R s m args below meth c G sc Q H locs cells slots L st L' st' pc' ls ⟨hx, hb, hml, hown, hts, hF, hS0⟩ hS hs hl1 hl2 hL
  cases st with
  | nil => cases hs
  | cons y st => cases st with
    | nil => cases hs
    | cons x st =>
      obtain ⟨y1, y2⟩ := y
      obtain ⟨x1, x2⟩ := x
      have hs2 : (if y1 = 0 ∧ x1 = 0 then (d_ibin 2 x2 y2).map (fun z => (pc + 1, L, (0, z) :: st)) else none) = some (pc', L', st') := hs
      by_cases ht : y1 = 0 ∧ x1 = 0
      · rw [if_pos ht] at hs2
        obtain ⟨rfl, rfl⟩ := ht
        obtain ⟨z, hz, he⟩ := Option.map_eq_some_iff.mp hs2
        cases he
        have hy : R32 y2 := d_rv_hd hl2
        have hxr : R32 x2 := d_rv_hd (d_rv_tl hl2)
        have hz : some (w32 (x2 * y2)) = some z := hz
        cases hz
        refine ⟨hl1, d_rv_cons (d_rv_0 (w32_R _)) (d_rv_tl (d_rv_tl hl2)), fun k => ?_⟩
        refine lv_imul hx hb hd ?_
        have := k ls hL
        rw [List.map_cons, d_cv_i, i32_mul] at this
        exact this
      · rw [if_neg ht] at hs2
        cases hs2

theorem rf_iand (hd : decode cc pc = .ok (.iand, 1)) : d_RF own cc nL pc 6 1 3 0 [] := by
  rintro p l e R s m args below meth c G sc Q H locs cells slots L st L' st' pc' ls ⟨hx, hb, hml, hown, hts, hF, hS0⟩ hS hs hl1 hl2 hL
  cases st with
  | nil => cases hs
  | cons y st => cases st with
    | nil => cases hs
    | cons x st =>
      obtain ⟨y1, y2⟩ := y
      obtain ⟨x1, x2⟩ := x
      have hs2 : (if y1 = 0 ∧ x1 = 0 then (d_ibin 3 x2 y2).map (fun z => (pc + 1, L, (0, z) :: st)) else none) = some (pc', L', st') := hs
      by_cases ht : y1 = 0 ∧ x1 = 0
      · rw [if_pos ht] at hs2
        obtain ⟨rfl, rfl⟩ := ht
        obtain ⟨z, hz, he⟩ := Option.map_eq_some_iff.mp hs2
        cases he
        have hy : R32 y2 := d_rv_hd hl2
        have hxr : R32 x2 := d_rv_hd (d_rv_tl hl2)
        have hz : some ((Int32.ofInt x2 &&& Int32.ofInt y2).toInt) = some z := hz
        cases hz
        refine ⟨hl1, d_rv_cons (d_rv_0 (i32_R _)) (d_rv_tl (d_rv_tl hl2)), fun k => ?_⟩
        refine lv_iand hx hb hd ?_
        have := k ls hL
        rw [List.map_cons, d_cv_i, i32_o] at this
        exact this
      · rw [if_neg ht] at hs2
        cases hs2

theorem rf_ior (hd : decode cc pc = .ok (.ior, 1)) : d_RF own cc nL pc 6 1 4 0 [] := by
  rintro p l e R s m args below meth c G sc Q H locs cells slots L st L' st' pc' ls ⟨hx, hb, hml, hown, hts, hF, hS0⟩ hS hs hl1 hl2 hL
  cases st with
  | nil => cases hs
  | cons y st => cases st with
    | nil => cases hs
    | cons x st =>
      obtain ⟨y1, y2⟩ := y
      obtain ⟨x1, x2⟩ := x
      have hs2 : (if y1 = 0 ∧ x1 = 0 then (d_ibin 4 x2 y2).map (fun z => (pc + 1, L, (0, z) :: st)) else none) = some (pc', L', st') := hs
      by_cases ht : y1 = 0 ∧ x1 = 0
      · rw [if_pos ht] at hs2
        obtain ⟨rfl, rfl⟩ := ht
        obtain ⟨z, hz, he⟩ := Option.map_eq_some_iff.mp hs2
        cases he
        have hy : R32 y2 := d_rv_hd hl2
        have hxr : R32 x2 := d_rv_hd (d_rv_tl hl2)
        have hz : some ((Int32.ofInt x2 ||| Int32.ofInt y2).toInt) = some z := hz
        cases hz
        refine ⟨hl1, d_rv_cons (d_rv_0 (i32_R _)) (d_rv_tl (d_rv_tl hl2)), fun k => ?_⟩
        refine lv_ior hx hb hd ?_
        have := k ls hL
        rw [List.map_cons, d_cv_i, i32_o] at this
        exact this
      · rw [if_neg ht] at hs2
        cases hs2

theorem rf_ixor (hd : decode cc pc = .ok (.ixor, 1)) : d_RF own cc nL pc 6 1 5 0 [] := by
  rintro p l e R s m args below meth c G sc Q H locs cells slots L st L' st' pc' ls ⟨hx, hb, hml, hown, hts, hF, hS0⟩ hS hs hl1 hl2 hL
  cases st with
  | nil => cases hs
  | cons y st => cases st with
    | nil => cases hs
    | cons x st =>
      obtain ⟨y1, y2⟩ := y
      obtain ⟨x1, x2⟩ := x
      have hs2 : (if y1 = 0 ∧ x1 = 0 then (d_ibin 5 x2 y2).map (fun z => (pc + 1, L, (0, z) :: st)) else none) = some (pc', L', st') := hs
      by_cases ht : y1 = 0 ∧ x1 = 0
      · rw [if_pos ht] at hs2
        obtain ⟨rfl, rfl⟩ := ht
        obtain ⟨z, hz, he⟩ := Option.map_eq_some_iff.mp hs2
        cases he
        have hy : R32 y2 := d_rv_hd hl2
        have hxr : R32 x2 := d_rv_hd (d_rv_tl hl2)
        have hz : some ((Int32.ofInt x2 ^^^ Int32.ofInt y2).toInt) = some z := hz
        cases hz
        refine ⟨hl1, d_rv_cons (d_rv_0 (i32_R _)) (d_rv_tl (d_rv_tl hl2)), fun k => ?_⟩
        refine lv_ixor hx hb hd ?_
        have := k ls hL
        rw [List.map_cons, d_cv_i, i32_o] at this
        exact this
      · rw [if_neg ht] at hs2
        cases hs2

theorem rf_ishl (hd : decode cc pc = .ok (.ishl, 1)) : d_RF own cc nL pc 6 1 6 0 [] := by
  rintro p l e R s m args below meth c G sc Q H locs cells slots L st L' st' pc' ls ⟨hx, hb, hml, hown, hts, hF, hS0⟩ hS hs hl1 hl2 hL
  cases st with
  | nil => cases hs
  | cons y st => cases st with
    | nil => cases hs
    | cons x st =>
      obtain ⟨y1, y2⟩ := y
      obtain ⟨x1, x2⟩ := x
      have hs2 : (if y1 = 0 ∧ x1 = 0 then (d_ibin 6 x2 y2).map (fun z => (pc + 1, L, (0, z) :: st)) else none) = some (pc', L', st') := hs
      by_cases ht : y1 = 0 ∧ x1 = 0
      · rw [if_pos ht] at hs2
        obtain ⟨rfl, rfl⟩ := ht
        obtain ⟨z, hz, he⟩ := Option.map_eq_some_iff.mp hs2
        cases he
        have hy : R32 y2 := d_rv_hd hl2
        have hxr : R32 x2 := d_rv_hd (d_rv_tl hl2)
        have hz : some ((Int32.ofInt x2 <<< (Int32.ofInt y2 &&& 31)).toInt) = some z := hz
        cases hz
        refine ⟨hl1, d_rv_cons (d_rv_0 (i32_R _)) (d_rv_tl (d_rv_tl hl2)), fun k => ?_⟩
        refine lv_ishl hx hb hd ?_
        have := k ls hL
        rw [List.map_cons, d_cv_i, i32_o] at this
        exact this
      · rw [if_neg ht] at hs2
        cases hs2

theorem rf_ishr (hd : decode cc pc = .ok (.ishr, 1)) : d_RF own cc nL pc 6 1 7 0 [] := by
  rintro p l e R s m args below meth c G sc Q H locs cells slots L st L' st' pc' ls ⟨hx, hb, hml, hown, hts, hF, hS0⟩ hS hs hl1 hl2 hL
  cases st with
  | nil => cases hs
  | cons y st => cases st with
    | nil => cases hs
    | cons x st =>
      obtain ⟨y1, y2⟩ := y
      obtain ⟨x1, x2⟩ := x
      have hs2 : (if y1 = 0 ∧ x1 = 0 then (d_ibin 7 x2 y2).map (fun z => (pc + 1, L, (0, z) :: st)) else none) = some (pc', L', st') := hs
      by_cases ht : y1 = 0 ∧ x1 = 0
      · rw [if_pos ht] at hs2
        obtain ⟨rfl, rfl⟩ := ht
        obtain ⟨z, hz, he⟩ := Option.map_eq_some_iff.mp hs2
        cases he
        have hy : R32 y2 := d_rv_hd hl2
        have hxr : R32 x2 := d_rv_hd (d_rv_tl hl2)
        have hz : some ((Int32.ofInt x2 >>> (Int32.ofInt y2 &&& 31)).toInt) = some z := hz
        cases hz
        refine ⟨hl1, d_rv_cons (d_rv_0 (i32_R _)) (d_rv_tl (d_rv_tl hl2)), fun k => ?_⟩
        refine lv_ishr hx hb hd ?_
        have := k ls hL
        rw [List.map_cons, d_cv_i, i32_o] at this
        exact this
      · rw [if_neg ht] at hs2
        cases hs2

theorem rf_iushr (hd : decode cc pc = .ok (.iushr, 1)) : d_RF own cc nL pc 6 1 8 0 [] := by
  rintro p l e R s m args below meth c G sc Q H locs cells slots L st L' st' pc' ls ⟨hx, hb, hml, hown, hts, hF, hS0⟩ hS hs hl1 hl2 hL
  cases st with
  | nil => cases hs
  | cons y st => cases st with
    | nil => cases hs
    | cons x st =>
      obtain ⟨y1, y2⟩ := y
      obtain ⟨x1, x2⟩ := x
      have hs2 : (if y1 = 0 ∧ x1 = 0 then (d_ibin 8 x2 y2).map (fun z => (pc + 1, L, (0, z) :: st)) else none) = some (pc', L', st') := hs
      by_cases ht : y1 = 0 ∧ x1 = 0
      · rw [if_pos ht] at hs2
        obtain ⟨rfl, rfl⟩ := ht
        obtain ⟨z, hz, he⟩ := Option.map_eq_some_iff.mp hs2
        cases he
        have hy : R32 y2 := d_rv_hd hl2
        have hxr : R32 x2 := d_rv_hd (d_rv_tl hl2)
        have hz : some ((Int32.ofInt x2).toUInt32 >>> ((Int32.ofInt y2).toUInt32 &&& Int32.toUInt32 31)).toInt32.toInt = some z := hz
        cases hz
        refine ⟨hl1, d_rv_cons (d_rv_0 (i32_R _)) (d_rv_tl (d_rv_tl hl2)), fun k => ?_⟩
        refine lv_iushr hx hb hd rfl ?_
        have := k ls hL
        rw [List.map_cons, d_cv_i, i32_o] at this
        exact this
      · rw [if_neg ht] at hs2
        cases hs2

theorem rf_idiv (hd : decode cc pc = .ok (.idiv, 1)) : d_RF own cc nL pc 6 1 9 0 [] := by
  rintro p l e R s m args below meth c G sc Q H locs cells slots L st L' st' pc' ls ⟨hx, hb, hml, hown, hts, hF, hS0⟩ hS hs hl1 hl2 hL
  cases st with
  | nil => cases hs
  | cons y st => cases st with
    | nil => cases hs
    | cons x st =>
      obtain ⟨y1, y2⟩ := y
      obtain ⟨x1, x2⟩ := x
      have hs2 : (if y1 = 0 ∧ x1 = 0 then (d_ibin 9 x2 y2).map (fun z => (pc + 1, L, (0, z) :: st)) else none) = some (pc', L', st') := hs
      by_cases ht : y1 = 0 ∧ x1 = 0
      · rw [if_pos ht] at hs2
        obtain ⟨rfl, rfl⟩ := ht
        obtain ⟨z, hz, he⟩ := Option.map_eq_some_iff.mp hs2
        cases he
        have hy : R32 y2 := d_rv_hd hl2
        have hxr : R32 x2 := d_rv_hd (d_rv_tl hl2)
        have hz : (if y2 = 0 then none else some (w32 (x2.tdiv y2))) = some z := hz
        by_cases h0 : y2 = 0
        · rw [if_pos h0] at hz
          cases hz
        · rw [if_neg h0] at hz
          cases hz
          refine ⟨hl1, d_rv_cons (d_rv_0 (w32_R _)) (d_rv_tl (d_rv_tl hl2)), fun k => ?_⟩
          refine lv_idiv hx hb hd (fun z => h0 ((i32_eq hy (by unfold R32; omega)).mp (z.trans (by rfl)))) ?_
          have := k ls hL
          rw [List.map_cons, d_cv_i, i32_div hxr hy] at this
          exact this
      · rw [if_neg ht] at hs2
        cases hs2

theorem rf_irem (hd : decode cc pc = .ok (.irem, 1)) : d_RF own cc nL pc 6 1 10 0 [] := by
  rintro p l e R s m args below meth c G sc Q H locs cells slots L st L' st' pc' ls ⟨hx, hb, hml, hown, hts, hF, hS0⟩ hS hs hl1 hl2 hL
  cases st with
  | nil => cases hs
  | cons y st => cases st with
    | nil => cases hs
    | cons x st =>
      obtain ⟨y1, y2⟩ := y
      obtain ⟨x1, x2⟩ := x
      have hs2 : (if y1 = 0 ∧ x1 = 0 then (d_ibin 10 x2 y2).map (fun z => (pc + 1, L, (0, z) :: st)) else none) = some (pc', L', st') := hs
      by_cases ht : y1 = 0 ∧ x1 = 0
      · rw [if_pos ht] at hs2
        obtain ⟨rfl, rfl⟩ := ht
        obtain ⟨z, hz, he⟩ := Option.map_eq_some_iff.mp hs2
        cases he
        have hy : R32 y2 := d_rv_hd hl2
        have hxr : R32 x2 := d_rv_hd (d_rv_tl hl2)
        have hz : (if y2 = 0 then none else some (w32 (x2.tmod y2))) = some z := hz
        by_cases h0 : y2 = 0
        · rw [if_pos h0] at hz
          cases hz
        · rw [if_neg h0] at hz
          cases hz
          refine ⟨hl1, d_rv_cons (d_rv_0 (w32_R _)) (d_rv_tl (d_rv_tl hl2)), fun k => ?_⟩
          refine lv_irem hx hb hd (fun z => h0 ((i32_eq hy (by unfold R32; omega)).mp (z.trans (by rfl)))) ?_
          have := k ls hL
          rw [List.map_cons, d_cv_i, i32_rem hxr hy] at this
          exact this
      · rw [if_neg ht] at hs2
        cases hs2

theorem rf_ineg (hd : decode cc pc = .ok (.ineg, 1)) : d_RF own cc nL pc 7 1 0 0 [] := by
  rintro p l e R s m args below meth c G sc Q H locs cells slots L st L' st' pc' ls ⟨hx, hb, hml, hown, hts, hF, hS0⟩ hS hs hl1 hl2 hL
  cases st with
  | nil => cases hs
  | cons x st =>
    obtain ⟨x1, x2⟩ := x
    obtain ⟨ht, he⟩ := d_if (show (if x1 = 0 then some (pc + 1, L, (0, w32 (-x2)) :: st) else none) = some (pc', L', st') from hs)
    subst ht
    cases he
    refine ⟨hl1, d_rv_cons (d_rv_0 (w32_R _)) (d_rv_tl hl2), fun k => ?_⟩
    refine lv_ineg hx hb hd ?_
    have := k ls hL
    rw [List.map_cons, d_cv_i, i32_neg] at this
    exact this

theorem rf_ladd (hd : decode cc pc = .ok (.ladd, 1)) : d_RF own cc nL pc 8 1 0 0 [] := by
  rintro p l e R s m args below meth c G sc Q H locs cells slots L st L' st' pc' ls ⟨hx, hb, hml, hown, hts, hF, hS0⟩ hS hs hl1 hl2 hL
  cases st with
  | nil => cases hs
  | cons y st => cases st with
    | nil => cases hs
    | cons x st =>
      obtain ⟨y1, y2⟩ := y
      obtain ⟨x1, x2⟩ := x
      have hs2 : (if y1 = 1 ∧ x1 = 1 then (d_lbin 0 x2 y2).map (fun z => (pc + 1, L, (1, z) :: st)) else none) = some (pc', L', st') := hs
      by_cases ht : y1 = 1 ∧ x1 = 1
      · rw [if_pos ht] at hs2
        obtain ⟨rfl, rfl⟩ := ht
        obtain ⟨z, hz, he⟩ := Option.map_eq_some_iff.mp hs2
        cases he
        have hy : R64 y2 := d_rv_hd hl2
        have hxr : R64 x2 := d_rv_hd (d_rv_tl hl2)
        have hz : some (w64 (x2 + y2)) = some z := hz
        cases hz
        refine ⟨hl1, d_rv_cons (d_rv_1 (w64_R _)) (d_rv_tl (d_rv_tl hl2)), fun k => ?_⟩
        refine lv_ladd hx hb hd ?_
        have := k ls hL
        rw [List.map_cons, d_cv_l, i64_add] at this
        exact this
      · rw [if_neg ht] at hs2
        cases hs2

theorem rf_lsub (hd : decode cc pc = .ok (.lsub, 1)) : d_RF own cc nL pc 8 1 1 0 [] := by
  rintro p l e R s m args below meth c G sc Q H locs cells slots L st L' st' pc' ls ⟨hx, hb, hml, hown, hts, hF, hS0⟩ hS hs hl1 hl2 hL
  cases st with
  | nil => cases hs
  | cons y st => cases st with
    | nil => cases hs
    | cons x st =>
      obtain ⟨y1, y2⟩ := y
      obtain ⟨x1, x2⟩ := x
      have hs2 : (if y1 = 1 ∧ x1 = 1 then (d_lbin 1 x2 y2).map (fun z => (pc + 1, L, (1, z) :: st)) else none) = some (pc', L', st') := hs
      by_cases ht : y1 = 1 ∧ x1 = 1
      · rw [if_pos ht] at hs2
        obtain ⟨rfl, rfl⟩ := ht
        obtain ⟨z, hz, he⟩ := Option.map_eq_some_iff.mp hs2
        cases he
        have hy : R64 y2 := d_rv_hd hl2
        have hxr : R64 x2 := d_rv_hd (d_rv_tl hl2)
        have hz : some (w64 (x2 - y2)) = some z := hz
        cases hz
        refine ⟨hl1, d_rv_cons (d_rv_1 (w64_R _)) (d_rv_tl (d_rv_tl hl2)), fun k => ?_⟩
        refine lv_lsub hx hb hd ?_
        have := k ls hL
        rw [List.map_cons, d_cv_l, i64_sub] at this
        exact this
      · rw [if_neg ht] at hs2
        cases hs2

theorem rf_lmul (hd : decode cc pc = .ok (.lmul, 1)) : d_RF own cc nL pc 8 1 2 0 [] := by
  rintro p l e R s m args below meth c G sc Q H locs cells slots L st L' st' pc' ls ⟨hx, hb, hml, hown, hts, hF, hS0⟩ hS hs hl1 hl2 hL
  cases st with
  | nil => cases hs
  | cons y st => cases st with
    | nil => cases hs
    | cons x st =>
      obtain ⟨y1, y2⟩ := y
      obtain ⟨x1, x2⟩ := x
      have hs2 : (if y1 = 1 ∧ x1 = 1 then (d_lbin 2 x2 y2).map (fun z => (pc + 1, L, (1, z) :: st)) else none) = some (pc', L', st') := hs
      by_cases ht : y1 = 1 ∧ x1 = 1
      · rw [if_pos ht] at hs2
        obtain ⟨rfl, rfl⟩ := ht
        obtain ⟨z, hz, he⟩ := Option.map_eq_some_iff.mp hs2
        cases he
        have hy : R64 y2 := d_rv_hd hl2
        have hxr : R64 x2 := d_rv_hd (d_rv_tl hl2)
        have hz : some (w64 (x2 * y2)) = some z := hz
        cases hz
        refine ⟨hl1, d_rv_cons (d_rv_1 (w64_R _)) (d_rv_tl (d_rv_tl hl2)), fun k => ?_⟩
        refine lv_lmul hx hb hd ?_
        have := k ls hL
        rw [List.map_cons, d_cv_l, i64_mul] at this
        exact this
      · rw [if_neg ht] at hs2
        cases hs2

theorem rf_ldiv (hd : decode cc pc = .ok (.ldiv, 1)) : d_RF own cc nL pc 8 1 3 0 [] := by
  rintro p l e R s m args below meth c G sc Q H locs cells slots L st L' st' pc' ls ⟨hx, hb, hml, hown, hts, hF, hS0⟩ hS hs hl1 hl2 hL
  cases st with
  | nil => cases hs
  | cons y st => cases st with
    | nil => cases hs
    | cons x st =>
      obtain ⟨y1, y2⟩ := y
      obtain ⟨x1, x2⟩ := x
      have hs2 : (if y1 = 1 ∧ x1 = 1 then (d_lbin 3 x2 y2).map (fun z => (pc + 1, L, (1, z) :: st)) else none) = some (pc', L', st') := hs
      by_cases ht : y1 = 1 ∧ x1 = 1
      · rw [if_pos ht] at hs2
        obtain ⟨rfl, rfl⟩ := ht
        obtain ⟨z, hz, he⟩ := Option.map_eq_some_iff.mp hs2
        cases he
        have hy : R64 y2 := d_rv_hd hl2
        have hxr : R64 x2 := d_rv_hd (d_rv_tl hl2)
        have hz : (if y2 = 0 then none else some (w64 (x2.tdiv y2))) = some z := hz
        by_cases h0 : y2 = 0
        · rw [if_pos h0] at hz
          cases hz
        · rw [if_neg h0] at hz
          cases hz
          refine ⟨hl1, d_rv_cons (d_rv_1 (w64_R _)) (d_rv_tl (d_rv_tl hl2)), fun k => ?_⟩
          refine lv_ldiv hx hb hd (fun z => h0 ((i64_eq hy (by unfold R64; omega)).mp (z.trans (by rfl)))) ?_
          have := k ls hL
          rw [List.map_cons, d_cv_l, i64_div hxr hy] at this
          exact this
      · rw [if_neg ht] at hs2
        cases hs2

theorem rf_lrem (hd : decode cc pc = .ok (.lrem, 1)) : d_RF own cc nL pc 8 1 4 0 [] := by
  rintro p l e R s m args below meth c G sc Q H locs cells slots L st L' st' pc' ls ⟨hx, hb, hml, hown, hts, hF, hS0⟩ hS hs hl1 hl2 hL
  cases st with
  | nil => cases hs
  | cons y st => cases st with
    | nil => cases hs
    | cons x st =>
      obtain ⟨y1, y2⟩ := y
      obtain ⟨x1, x2⟩ := x
      have hs2 : (if y1 = 1 ∧ x1 = 1 then (d_lbin 4 x2 y2).map (fun z => (pc + 1, L, (1, z) :: st)) else none) = some (pc', L', st') := hs
      by_cases ht : y1 = 1 ∧ x1 = 1
      · rw [if_pos ht] at hs2
        obtain ⟨rfl, rfl⟩ := ht
        obtain ⟨z, hz, he⟩ := Option.map_eq_some_iff.mp hs2
        cases he
        have hy : R64 y2 := d_rv_hd hl2
        have hxr : R64 x2 := d_rv_hd (d_rv_tl hl2)
        have hz : (if y2 = 0 then none else some (w64 (x2.tmod y2))) = some z := hz
        by_cases h0 : y2 = 0
        · rw [if_pos h0] at hz
          cases hz
        · rw [if_neg h0] at hz
          cases hz
          refine ⟨hl1, d_rv_cons (d_rv_1 (w64_R _)) (d_rv_tl (d_rv_tl hl2)), fun k => ?_⟩
          refine lv_lrem hx hb hd (fun z => h0 ((i64_eq hy (by unfold R64; omega)).mp (z.trans (by rfl)))) ?_
          have := k ls hL
          rw [List.map_cons, d_cv_l, i64_rem hxr hy] at this
          exact this
      · rw [if_neg ht] at hs2
        cases hs2

theorem rf_i2l (hd : decode cc pc = .ok (.i2l, 1)) : d_RF own cc nL pc 9 1 0 0 [] := by
  rintro p l e R s m args below meth c G sc Q H locs cells slots L st L' st' pc' ls ⟨hx, hb, hml, hown, hts, hF, hS0⟩ hS hs hl1 hl2 hL
  cases st with
  | nil => cases hs
  | cons x st =>
    obtain ⟨x1, x2⟩ := x
    have hs : (d_conv 0 (x1, x2)).map (fun z => (pc + 1, L, z :: st)) = some (pc', L', st') := hs
    obtain ⟨z, hz, he⟩ := Option.map_eq_some_iff.mp hs
    obtain ⟨ht, hz2⟩ := d_if (show (if x1 = 0 then some (1, x2) else none) = some z from hz)
    subst ht
    subst hz2
    cases he
    have hxr := d_rv_hd hl2
    refine ⟨hl1, d_rv_cons (d_rv_1 ⟨by have := (show R32 x2 from hxr).1; omega, by have := (show R32 x2 from hxr).2; omega⟩) (d_rv_tl hl2), fun k => ?_⟩
    refine lv_i2l hx hb hd ?_ (k ls hL)
    exact i32_l hxr

theorem rf_l2i (hd : decode cc pc = .ok (.l2i, 1)) : d_RF own cc nL pc 9 1 1 0 [] := by
  rintro p l e R s m args below meth c G sc Q H locs cells slots L st L' st' pc' ls ⟨hx, hb, hml, hown, hts, hF, hS0⟩ hS hs hl1 hl2 hL
  cases st with
  | nil => cases hs
  | cons x st =>
    obtain ⟨x1, x2⟩ := x
    have hs : (d_conv 1 (x1, x2)).map (fun z => (pc + 1, L, z :: st)) = some (pc', L', st') := hs
    obtain ⟨z, hz, he⟩ := Option.map_eq_some_iff.mp hs
    obtain ⟨ht, hz2⟩ := d_if (show (if x1 = 1 then some (0, w32 x2) else none) = some z from hz)
    subst ht
    subst hz2
    cases he
    have hxr := d_rv_hd hl2
    refine ⟨hl1, d_rv_cons (d_rv_0 (w32_R _)) (d_rv_tl hl2), fun k => ?_⟩
    refine lv_l2i hx hb hd ?_ (k ls hL)
    exact i64_i x2

theorem rf_i2b (hd : decode cc pc = .ok (.i2b, 1)) : d_RF own cc nL pc 9 1 2 0 [] := by
  rintro p l e R s m args below meth c G sc Q H locs cells slots L st L' st' pc' ls ⟨hx, hb, hml, hown, hts, hF, hS0⟩ hS hs hl1 hl2 hL
  cases st with
  | nil => cases hs
  | cons x st =>
    obtain ⟨x1, x2⟩ := x
    have hs : (d_conv 2 (x1, x2)).map (fun z => (pc + 1, L, z :: st)) = some (pc', L', st') := hs
    obtain ⟨z, hz, he⟩ := Option.map_eq_some_iff.mp hs
    obtain ⟨ht, hz2⟩ := d_if (show (if x1 = 0 then some (0, (Int32.ofInt x2).toInt8.toInt32.toInt) else none) = some z from hz)
    subst ht
    subst hz2
    cases he
    have hxr := d_rv_hd hl2
    refine ⟨hl1, d_rv_cons (d_rv_0 (i32_R _)) (d_rv_tl hl2), fun k => ?_⟩
    refine lv_i2b hx hb hd ?_ (k ls hL)
    exact (i32_o _).symm

theorem rf_i2s (hd : decode cc pc = .ok (.i2s, 1)) : d_RF own cc nL pc 9 1 3 0 [] := by
  rintro p l e R s m args below meth c G sc Q H locs cells slots L st L' st' pc' ls ⟨hx, hb, hml, hown, hts, hF, hS0⟩ hS hs hl1 hl2 hL
  cases st with
  | nil => cases hs
  | cons x st =>
    obtain ⟨x1, x2⟩ := x
    have hs : (d_conv 3 (x1, x2)).map (fun z => (pc + 1, L, z :: st)) = some (pc', L', st') := hs
    obtain ⟨z, hz, he⟩ := Option.map_eq_some_iff.mp hs
    obtain ⟨ht, hz2⟩ := d_if (show (if x1 = 0 then some (0, (Int32.ofInt x2).toInt16.toInt32.toInt) else none) = some z from hz)
    subst ht
    subst hz2
    cases he
    have hxr := d_rv_hd hl2
    refine ⟨hl1, d_rv_cons (d_rv_0 (i32_R _)) (d_rv_tl hl2), fun k => ?_⟩
    refine lv_i2s hx hb hd ?_ (k ls hL)
    exact (i32_o _).symm

theorem rf_i2c (hd : decode cc pc = .ok (.i2c, 1)) : d_RF own cc nL pc 9 1 4 0 [] := by
  rintro p l e R s m args below meth c G sc Q H locs cells slots L st L' st' pc' ls ⟨hx, hb, hml, hown, hts, hF, hS0⟩ hS hs hl1 hl2 hL
  cases st with
  | nil => cases hs
  | cons x st =>
    obtain ⟨x1, x2⟩ := x
    have hs : (d_conv 4 (x1, x2)).map (fun z => (pc + 1, L, z :: st)) = some (pc', L', st') := hs
    obtain ⟨z, hz, he⟩ := Option.map_eq_some_iff.mp hs
    obtain ⟨ht, hz2⟩ := d_if (show (if x1 = 0 then some (0, ((Int32.ofInt x2).toUInt32 % 65536).toInt32.toInt) else none) = some z from hz)
    subst ht
    subst hz2
    cases he
    have hxr := d_rv_hd hl2
    refine ⟨hl1, d_rv_cons (d_rv_0 (i32_R _)) (d_rv_tl hl2), fun k => ?_⟩
    refine lv_i2c hx hb hd ?_ (k ls hL)
    exact (i32_o _).symm

theorem rf_lcmp (hd : decode cc pc = .ok (.lcmp, 1)) : d_RF own cc nL pc 10 1 0 0 [] := by
  rintro p l e R s m args below meth c G sc Q H locs cells slots L st L' st' pc' ls ⟨hx, hb, hml, hown, hts, hF, hS0⟩ hS hs hl1 hl2 hL
  cases st with
  | nil => cases hs
  | cons y st => cases st with
    | nil => cases hs
    | cons x st =>
      obtain ⟨y1, y2⟩ := y
      obtain ⟨x1, x2⟩ := x
      obtain ⟨ht, he⟩ := d_if (show (if y1 = 1 ∧ x1 = 1 then some (pc + 1, L, (0, if y2 < x2 then 1 else if x2 = y2 then 0 else -1) :: st) else none) = some (pc', L', st') from hs)
      obtain ⟨rfl, rfl⟩ := ht
      cases he
      have hy : R64 y2 := d_rv_hd hl2
      have hxr : R64 x2 := d_rv_hd (d_rv_tl hl2)
      refine ⟨hl1, d_rv_cons (d_rv_0 (by unfold R32; split <;> (try split) <;> omega)) (d_rv_tl (d_rv_tl hl2)), fun k => ?_⟩
      refine W.lcmp hx hb hd ?_
      have := k ls hL
      rw [List.map_cons, d_cv_i] at this
      have e9 : lg_cmp (Int64.ofInt x2) (Int64.ofInt y2) = Int32.ofInt (if y2 < x2 then 1 else if x2 = y2 then 0 else -1) := by
        unfold lg_cmp
        by_cases h1 : y2 < x2
        · rw [if_pos h1, if_pos ((i64_lt hy hxr).mpr h1)]
          rfl
        · rw [if_neg h1, if_neg (fun z => h1 ((i64_lt hy hxr).mp z))]
          by_cases h2 : x2 = y2
          · rw [if_pos h2, if_pos ((i64_eq hxr hy).mpr h2)]
            rfl
          · rw [if_neg h2, if_neg (fun z => h2 ((i64_eq hxr hy).mp z))]
            rfl
      show W p l e R s m args below meth c H locs cells slots Q (F0 m (pc + 1) ls (.int (lg_cmp (Int64.ofInt x2) (Int64.ofInt y2)) :: st.map (d_cv G)))
      rw [e9]
      exact this

theorem rf_if_eq {off : Int} {b : Nat} (hd : decode cc pc = .ok (.ifCond .eq off, 3)) (ht : (pc : Int) + off = (b : Int)) : d_RF own cc nL pc 11 3 0 (b : Int) [] := by
  rintro p l e R s m args below meth c G sc Q H locs cells slots L st L' st' pc' ls ⟨hx, hb, hml, hown, hts, hF, hS0⟩ hS hs hl1 hl2 hL
  cases st with
  | nil => cases hs
  | cons x st =>
    obtain ⟨x1, x2⟩ := x
    obtain ⟨ht0, he⟩ := d_if (show (if x1 = 0 then some (if d_cond 0 x2 0 then b else pc + 3, L, st) else none) = some (pc', L', st') from hs)
    subst ht0
    cases he
    have hxr : R32 x2 := d_rv_hd hl2
    have hy : R32 0 := by unfold R32; omega
    refine ⟨hl1, d_rv_tl hl2, fun k => ?_⟩
    have key := k ls hL
    have e : d_cond 0 x2 0 = decide (x2 = 0) := rfl
    rw [e] at key
    have hz : Int32.ofInt 0 = 0 := rfl
    have iff_ := (i32_eq hxr hy)
    rw [hz] at iff_
    refine lv_if_eq hx hb hd ht (fun q => ?_) (fun q => ?_)
    · rw [if_pos (by first | exact decide_eq_true (iff_.mp q) | exact decide_eq_true q)] at key
      exact key
    · rw [if_neg (by first | exact fun w => q (iff_.mpr (of_decide_eq_true w)) | exact fun w => (of_decide_eq_true w) (iff_.mp q) | exact fun w => (iff_.mpr (of_decide_eq_true w)) q)] at key
      exact key

theorem rf_icmp_eq {off : Int} {b : Nat} (hd : decode cc pc = .ok (.if_icmp .eq off, 3)) (ht : (pc : Int) + off = (b : Int)) : d_RF own cc nL pc 12 3 0 (b : Int) [] := by
  rintro p l e R s m args below meth c G sc Q H locs cells slots L st L' st' pc' ls ⟨hx, hb, hml, hown, hts, hF, hS0⟩ hS hs hl1 hl2 hL
  cases st with
  | nil => cases hs
  | cons y st => cases st with
    | nil => cases hs
    | cons x st =>
      obtain ⟨y1, y2⟩ := y
      obtain ⟨x1, x2⟩ := x
      obtain ⟨ht0, he⟩ := d_if (show (if y1 = 0 ∧ x1 = 0 then some (if d_cond 0 x2 y2 then b else pc + 3, L, st) else none) = some (pc', L', st') from hs)
      obtain ⟨rfl, rfl⟩ := ht0
      cases he
      have hy : R32 y2 := d_rv_hd hl2
      have hxr : R32 x2 := d_rv_hd (d_rv_tl hl2)
      refine ⟨hl1, d_rv_tl (d_rv_tl hl2), fun k => ?_⟩
      have key := k ls hL
      have e : d_cond 0 x2 y2 = decide (x2 = y2) := rfl
      rw [e] at key
      have iff_ := (i32_eq hxr hy)
      refine lv_icmp_eq hx hb hd ht (fun q => ?_) (fun q => ?_)
      · rw [if_pos (by first | exact decide_eq_true (iff_.mp q) | exact decide_eq_true q)] at key
        exact key
      · rw [if_neg (by first | exact fun w => q (iff_.mpr (of_decide_eq_true w)) | exact fun w => (of_decide_eq_true w) (iff_.mp q) | exact fun w => (iff_.mpr (of_decide_eq_true w)) q)] at key
        exact key

theorem rf_if_ne {off : Int} {b : Nat} (hd : decode cc pc = .ok (.ifCond .ne off, 3)) (ht : (pc : Int) + off = (b : Int)) : d_RF own cc nL pc 11 3 1 (b : Int) [] := by
  rintro p l e R s m args below meth c G sc Q H locs cells slots L st L' st' pc' ls ⟨hx, hb, hml, hown, hts, hF, hS0⟩ hS hs hl1 hl2 hL
  cases st with
  | nil => cases hs
  | cons x st =>
    obtain ⟨x1, x2⟩ := x
    obtain ⟨ht0, he⟩ := d_if (show (if x1 = 0 then some (if d_cond 1 x2 0 then b else pc + 3, L, st) else none) = some (pc', L', st') from hs)
    subst ht0
    cases he
    have hxr : R32 x2 := d_rv_hd hl2
    have hy : R32 0 := by unfold R32; omega
    refine ⟨hl1, d_rv_tl hl2, fun k => ?_⟩
    have key := k ls hL
    have e : d_cond 1 x2 0 = decide (¬ x2 = 0) := rfl
    rw [e] at key
    have hz : Int32.ofInt 0 = 0 := rfl
    have iff_ := (not_congr (i32_eq hxr hy))
    rw [hz] at iff_
    refine lv_if_ne hx hb hd ht (fun q => ?_) (fun q => ?_)
    · rw [if_pos (by first | exact decide_eq_true (iff_.mp q) | exact decide_eq_true q)] at key
      exact key
    · rw [if_neg (by first | exact fun w => q (iff_.mpr (of_decide_eq_true w)) | exact fun w => (of_decide_eq_true w) (iff_.mp q) | exact fun w => (iff_.mpr (of_decide_eq_true w)) q)] at key
      exact key

theorem rf_icmp_ne {off : Int} {b : Nat} (hd : decode cc pc = .ok (.if_icmp .ne off, 3)) (ht : (pc : Int) + off = (b : Int)) : d_RF own cc nL pc 12 3 1 (b : Int) [] := by
  rintro p l e R s m args below meth c G sc Q H locs cells slots L st L' st' pc' ls ⟨hx, hb, hml, hown, hts, hF, hS0⟩ hS hs hl1 hl2 hL
  cases st with
  | nil => cases hs
  | cons y st => cases st with
    | nil => cases hs
    | cons x st =>
      obtain ⟨y1, y2⟩ := y
      obtain ⟨x1, x2⟩ := x
      obtain ⟨ht0, he⟩ := d_if (show (if y1 = 0 ∧ x1 = 0 then some (if d_cond 1 x2 y2 then b else pc + 3, L, st) else none) = some (pc', L', st') from hs)
      obtain ⟨rfl, rfl⟩ := ht0
      cases he
      have hy : R32 y2 := d_rv_hd hl2
      have hxr : R32 x2 := d_rv_hd (d_rv_tl hl2)
      refine ⟨hl1, d_rv_tl (d_rv_tl hl2), fun k => ?_⟩
      have key := k ls hL
      have e : d_cond 1 x2 y2 = decide (¬ x2 = y2) := rfl
      rw [e] at key
      have iff_ := (not_congr (i32_eq hxr hy))
      refine lv_icmp_ne hx hb hd ht (fun q => ?_) (fun q => ?_)
      · rw [if_pos (by first | exact decide_eq_true (iff_.mp q) | exact decide_eq_true q)] at key
        exact key
      · rw [if_neg (by first | exact fun w => q (iff_.mpr (of_decide_eq_true w)) | exact fun w => (of_decide_eq_true w) (iff_.mp q) | exact fun w => (iff_.mpr (of_decide_eq_true w)) q)] at key
        exact key

theorem rf_if_lt {off : Int} {b : Nat} (hd : decode cc pc = .ok (.ifCond .lt off, 3)) (ht : (pc : Int) + off = (b : Int)) : d_RF own cc nL pc 11 3 2 (b : Int) [] := by
  rintro p l e R s m args below meth c G sc Q H locs cells slots L st L' st' pc' ls ⟨hx, hb, hml, hown, hts, hF, hS0⟩ hS hs hl1 hl2 hL
  cases st with
  | nil => cases hs
  | cons x st =>
    obtain ⟨x1, x2⟩ := x
    obtain ⟨ht0, he⟩ := d_if (show (if x1 = 0 then some (if d_cond 2 x2 0 then b else pc + 3, L, st) else none) = some (pc', L', st') from hs)
    subst ht0
    cases he
    have hxr : R32 x2 := d_rv_hd hl2
    have hy : R32 0 := by unfold R32; omega
    refine ⟨hl1, d_rv_tl hl2, fun k => ?_⟩
    have key := k ls hL
    have e : d_cond 2 x2 0 = decide (x2 < 0) := rfl
    rw [e] at key
    have hz : Int32.ofInt 0 = 0 := rfl
    have iff_ := (i32_lt hxr hy)
    rw [hz] at iff_
    refine lv_if_lt hx hb hd ht (fun q => ?_) (fun q => ?_)
    · rw [if_pos (by first | exact decide_eq_true (iff_.mp q) | exact decide_eq_true q)] at key
      exact key
    · rw [if_neg (by first | exact fun w => q (iff_.mpr (of_decide_eq_true w)) | exact fun w => (of_decide_eq_true w) (iff_.mp q) | exact fun w => (iff_.mpr (of_decide_eq_true w)) q)] at key
      exact key

theorem rf_icmp_lt {off : Int} {b : Nat} (hd : decode cc pc = .ok (.if_icmp .lt off, 3)) (ht : (pc : Int) + off = (b : Int)) : d_RF own cc nL pc 12 3 2 (b : Int) [] := by
  rintro p l e R s m args below meth c G sc Q H locs cells slots L st L' st' pc' ls ⟨hx, hb, hml, hown, hts, hF, hS0⟩ hS hs hl1 hl2 hL
  cases st with
  | nil => cases hs
  | cons y st => cases st with
    | nil => cases hs
    | cons x st =>
      obtain ⟨y1, y2⟩ := y
      obtain ⟨x1, x2⟩ := x
      obtain ⟨ht0, he⟩ := d_if (show (if y1 = 0 ∧ x1 = 0 then some (if d_cond 2 x2 y2 then b else pc + 3, L, st) else none) = some (pc', L', st') from hs)
      obtain ⟨rfl, rfl⟩ := ht0
      cases he
      have hy : R32 y2 := d_rv_hd hl2
      have hxr : R32 x2 := d_rv_hd (d_rv_tl hl2)
      refine ⟨hl1, d_rv_tl (d_rv_tl hl2), fun k => ?_⟩
      have key := k ls hL
      have e : d_cond 2 x2 y2 = decide (x2 < y2) := rfl
      rw [e] at key
      have iff_ := (i32_lt hxr hy)
      refine lv_icmp_lt hx hb hd ht (fun q => ?_) (fun q => ?_)
      · rw [if_pos (by first | exact decide_eq_true (iff_.mp q) | exact decide_eq_true q)] at key
        exact key
      · rw [if_neg (by first | exact fun w => q (iff_.mpr (of_decide_eq_true w)) | exact fun w => (of_decide_eq_true w) (iff_.mp q) | exact fun w => (iff_.mpr (of_decide_eq_true w)) q)] at key
        exact key

theorem rf_if_ge {off : Int} {b : Nat} (hd : decode cc pc = .ok (.ifCond .ge off, 3)) (ht : (pc : Int) + off = (b : Int)) : d_RF own cc nL pc 11 3 3 (b : Int) [] := by
  rintro p l e R s m args below meth c G sc Q H locs cells slots L st L' st' pc' ls ⟨hx, hb, hml, hown, hts, hF, hS0⟩ hS hs hl1 hl2 hL
  cases st with
  | nil => cases hs
  | cons x st =>
    obtain ⟨x1, x2⟩ := x
    obtain ⟨ht0, he⟩ := d_if (show (if x1 = 0 then some (if d_cond 3 x2 0 then b else pc + 3, L, st) else none) = some (pc', L', st') from hs)
    subst ht0
    cases he
    have hxr : R32 x2 := d_rv_hd hl2
    have hy : R32 0 := by unfold R32; omega
    refine ⟨hl1, d_rv_tl hl2, fun k => ?_⟩
    have key := k ls hL
    have e : d_cond 3 x2 0 = decide (0 ≤ x2) := rfl
    rw [e] at key
    have hz : Int32.ofInt 0 = 0 := rfl
    have iff_ := (i32_le hy hxr)
    rw [hz] at iff_
    refine lv_if_ge hx hb hd ht (fun q => ?_) (fun q => ?_)
    · rw [if_pos (by first | exact decide_eq_true (iff_.mp q) | exact decide_eq_true q)] at key
      exact key
    · rw [if_neg (by first | exact fun w => q (iff_.mpr (of_decide_eq_true w)) | exact fun w => (of_decide_eq_true w) (iff_.mp q) | exact fun w => (iff_.mpr (of_decide_eq_true w)) q)] at key
      exact key

theorem rf_icmp_ge {off : Int} {b : Nat} (hd : decode cc pc = .ok (.if_icmp .ge off, 3)) (ht : (pc : Int) + off = (b : Int)) : d_RF own cc nL pc 12 3 3 (b : Int) [] := by
  rintro p l e R s m args below meth c G sc Q H locs cells slots L st L' st' pc' ls ⟨hx, hb, hml, hown, hts, hF, hS0⟩ hS hs hl1 hl2 hL
  cases st with
  | nil => cases hs
  | cons y st => cases st with
    | nil => cases hs
    | cons x st =>
      obtain ⟨y1, y2⟩ := y
      obtain ⟨x1, x2⟩ := x
      obtain ⟨ht0, he⟩ := d_if (show (if y1 = 0 ∧ x1 = 0 then some (if d_cond 3 x2 y2 then b else pc + 3, L, st) else none) = some (pc', L', st') from hs)
      obtain ⟨rfl, rfl⟩ := ht0
      cases he
      have hy : R32 y2 := d_rv_hd hl2
      have hxr : R32 x2 := d_rv_hd (d_rv_tl hl2)
      refine ⟨hl1, d_rv_tl (d_rv_tl hl2), fun k => ?_⟩
      have key := k ls hL
      have e : d_cond 3 x2 y2 = decide (y2 ≤ x2) := rfl
      rw [e] at key
      have iff_ := (i32_le hy hxr)
      refine lv_icmp_ge hx hb hd ht (fun q => ?_) (fun q => ?_)
      · rw [if_pos (by first | exact decide_eq_true (iff_.mp q) | exact decide_eq_true q)] at key
        exact key
      · rw [if_neg (by first | exact fun w => q (iff_.mpr (of_decide_eq_true w)) | exact fun w => (of_decide_eq_true w) (iff_.mp q) | exact fun w => (iff_.mpr (of_decide_eq_true w)) q)] at key
        exact key

theorem rf_if_gt {off : Int} {b : Nat} (hd : decode cc pc = .ok (.ifCond .gt off, 3)) (ht : (pc : Int) + off = (b : Int)) : d_RF own cc nL pc 11 3 4 (b : Int) [] := by
  rintro p l e R s m args below meth c G sc Q H locs cells slots L st L' st' pc' ls ⟨hx, hb, hml, hown, hts, hF, hS0⟩ hS hs hl1 hl2 hL
  cases st with
  | nil => cases hs
  | cons x st =>
    obtain ⟨x1, x2⟩ := x
    obtain ⟨ht0, he⟩ := d_if (show (if x1 = 0 then some (if d_cond 4 x2 0 then b else pc + 3, L, st) else none) = some (pc', L', st') from hs)
    subst ht0
    cases he
    have hxr : R32 x2 := d_rv_hd hl2
    have hy : R32 0 := by unfold R32; omega
    refine ⟨hl1, d_rv_tl hl2, fun k => ?_⟩
    have key := k ls hL
    have e : d_cond 4 x2 0 = decide (0 < x2) := rfl
    rw [e] at key
    have hz : Int32.ofInt 0 = 0 := rfl
    have iff_ := (i32_lt hy hxr)
    rw [hz] at iff_
    refine lv_if_gt hx hb hd ht (fun q => ?_) (fun q => ?_)
    · rw [if_pos (by first | exact decide_eq_true (iff_.mp q) | exact decide_eq_true q)] at key
      exact key
    · rw [if_neg (by first | exact fun w => q (iff_.mpr (of_decide_eq_true w)) | exact fun w => (of_decide_eq_true w) (iff_.mp q) | exact fun w => (iff_.mpr (of_decide_eq_true w)) q)] at key
      exact key

theorem rf_icmp_gt {off : Int} {b : Nat} (hd : decode cc pc = .ok (.if_icmp .gt off, 3)) (ht : (pc : Int) + off = (b : Int)) : d_RF own cc nL pc 12 3 4 (b : Int) [] := by
  rintro p l e R s m args below meth c G sc Q H locs cells slots L st L' st' pc' ls ⟨hx, hb, hml, hown, hts, hF, hS0⟩ hS hs hl1 hl2 hL
  cases st with
  | nil => cases hs
  | cons y st => cases st with
    | nil => cases hs
    | cons x st =>
      obtain ⟨y1, y2⟩ := y
      obtain ⟨x1, x2⟩ := x
      obtain ⟨ht0, he⟩ := d_if (show (if y1 = 0 ∧ x1 = 0 then some (if d_cond 4 x2 y2 then b else pc + 3, L, st) else none) = some (pc', L', st') from hs)
      obtain ⟨rfl, rfl⟩ := ht0
      cases he
      have hy : R32 y2 := d_rv_hd hl2
      have hxr : R32 x2 := d_rv_hd (d_rv_tl hl2)
      refine ⟨hl1, d_rv_tl (d_rv_tl hl2), fun k => ?_⟩
      have key := k ls hL
      have e : d_cond 4 x2 y2 = decide (y2 < x2) := rfl
      rw [e] at key
      have iff_ := (i32_lt hy hxr)
      refine lv_icmp_gt hx hb hd ht (fun q => ?_) (fun q => ?_)
      · rw [if_pos (by first | exact decide_eq_true (iff_.mp q) | exact decide_eq_true q)] at key
        exact key
      · rw [if_neg (by first | exact fun w => q (iff_.mpr (of_decide_eq_true w)) | exact fun w => (of_decide_eq_true w) (iff_.mp q) | exact fun w => (iff_.mpr (of_decide_eq_true w)) q)] at key
        exact key

theorem rf_if_le {off : Int} {b : Nat} (hd : decode cc pc = .ok (.ifCond .le off, 3)) (ht : (pc : Int) + off = (b : Int)) : d_RF own cc nL pc 11 3 5 (b : Int) [] := by
  rintro p l e R s m args below meth c G sc Q H locs cells slots L st L' st' pc' ls ⟨hx, hb, hml, hown, hts, hF, hS0⟩ hS hs hl1 hl2 hL
  cases st with
  | nil => cases hs
  | cons x st =>
    obtain ⟨x1, x2⟩ := x
    obtain ⟨ht0, he⟩ := d_if (show (if x1 = 0 then some (if d_cond 5 x2 0 then b else pc + 3, L, st) else none) = some (pc', L', st') from hs)
    subst ht0
    cases he
    have hxr : R32 x2 := d_rv_hd hl2
    have hy : R32 0 := by unfold R32; omega
    refine ⟨hl1, d_rv_tl hl2, fun k => ?_⟩
    have key := k ls hL
    have e : d_cond 5 x2 0 = decide (x2 ≤ 0) := rfl
    rw [e] at key
    have hz : Int32.ofInt 0 = 0 := rfl
    have iff_ := (i32_le hxr hy)
    rw [hz] at iff_
    refine lv_if_le hx hb hd ht (fun q => ?_) (fun q => ?_)
    · rw [if_pos (by first | exact decide_eq_true (iff_.mp q) | exact decide_eq_true q)] at key
      exact key
    · rw [if_neg (by first | exact fun w => q (iff_.mpr (of_decide_eq_true w)) | exact fun w => (of_decide_eq_true w) (iff_.mp q) | exact fun w => (iff_.mpr (of_decide_eq_true w)) q)] at key
      exact key

theorem rf_icmp_le {off : Int} {b : Nat} (hd : decode cc pc = .ok (.if_icmp .le off, 3)) (ht : (pc : Int) + off = (b : Int)) : d_RF own cc nL pc 12 3 5 (b : Int) [] := by
  rintro p l e R s m args below meth c G sc Q H locs cells slots L st L' st' pc' ls ⟨hx, hb, hml, hown, hts, hF, hS0⟩ hS hs hl1 hl2 hL
  cases st with
  | nil => cases hs
  | cons y st => cases st with
    | nil => cases hs
    | cons x st =>
      obtain ⟨y1, y2⟩ := y
      obtain ⟨x1, x2⟩ := x
      obtain ⟨ht0, he⟩ := d_if (show (if y1 = 0 ∧ x1 = 0 then some (if d_cond 5 x2 y2 then b else pc + 3, L, st) else none) = some (pc', L', st') from hs)
      obtain ⟨rfl, rfl⟩ := ht0
      cases he
      have hy : R32 y2 := d_rv_hd hl2
      have hxr : R32 x2 := d_rv_hd (d_rv_tl hl2)
      refine ⟨hl1, d_rv_tl (d_rv_tl hl2), fun k => ?_⟩
      have key := k ls hL
      have e : d_cond 5 x2 y2 = decide (x2 ≤ y2) := rfl
      rw [e] at key
      have iff_ := (i32_le hxr hy)
      refine lv_icmp_le hx hb hd ht (fun q => ?_) (fun q => ?_)
      · rw [if_pos (by first | exact decide_eq_true (iff_.mp q) | exact decide_eq_true q)] at key
        exact key
      · rw [if_neg (by first | exact fun w => q (iff_.mpr (of_decide_eq_true w)) | exact fun w => (of_decide_eq_true w) (iff_.mp q) | exact fun w => (iff_.mpr (of_decide_eq_true w)) q)] at key
        exact key

theorem rf_goto {off : Int} {b : Nat} (hd : decode cc pc = .ok (.goto off, 3)) (ht : (pc : Int) + off = (b : Int)) : d_RF own cc nL pc 13 3 0 (b : Int) [] := by
  rintro p l e R s m args below meth c G sc Q H locs cells slots L st L' st' pc' ls ⟨hx, hb, hml, hown, hts, hF, hS0⟩ hS hs hl1 hl2 hL
  cases (show some (b, L, st) = some (pc', L', st') from hs)
  exact ⟨hl1, hl2, fun k => lv_goto hx hb hd ht (k ls hL)⟩

theorem rf_ifnull {off : Int} {b : Nat} (hd : decode cc pc = .ok (.ifnull off, 3)) (ht : (pc : Int) + off = (b : Int)) : d_RF own cc nL pc 14 3 0 (b : Int) [] := by
  rintro p l e R s m args below meth c G sc Q H locs cells slots L st L' st' pc' ls ⟨hx, hb, hml, hown, hts, hF, hS0⟩ hS hs hl1 hl2 hL
  cases st with
  | nil => cases hs
  | cons x st =>
    obtain ⟨x1, x2⟩ := x
    obtain ⟨⟨ht0, hlt⟩, he⟩ := d_if (show (if x1 = 2 ∧ x2 < 1000000 then some (if x2 < 0 then b else pc + 3, L, st) else none) = some (pc', L', st') from hs)
    subst ht0
    cases he
    refine ⟨hl1, d_rv_tl hl2, fun k => ?_⟩
    have key := k ls hL
    rw [List.map_cons, d_cv_r]
    by_cases h0 : x2 < 0
    · rw [if_pos h0] at key
      have e : d_rf G x2 = none := by unfold d_rf; rw [if_pos h0]
      rw [e]
      exact lv_ifnullN hx hb hd ht key
    · rw [if_neg h0] at key
      rw [d_rf_cell G (by omega) hlt]
      exact lv_ifnull hx hb hd key

theorem rf_lookup {dflt : Int} {ps : Array (Int × Int)} {len b : Nat} {sw : List (Int × Nat)} (hd : decode cc pc = .ok (.lookupswitch dflt ps, len)) (hp : (ps.toList.zip (ps.toList.drop 1)).all (fun (a, next) => a.1 < next.1) = true) (hm : ps.toList.map (fun q => (q.1, (pc : Int) + q.2)) = sw.map (fun q => (q.1, (q.2 : Int)))) (hb2 : (pc : Int) + dflt = (b : Int)) : d_RF own cc nL pc 15 len 0 (b : Int) sw := by
  rintro p l e R s m args below meth c G sc Q H locs cells slots L st L' st' pc' ls ⟨hx, hb, hml, hown, hts, hF, hS0⟩ hS hs hl1 hl2 hL
  cases st with
  | nil => cases hs
  | cons x st =>
    obtain ⟨x1, x2⟩ := x
    obtain ⟨ht0, he⟩ := d_if (show (if x1 = 0 then some (d_sw sw x2 b, L, st) else none) = some (pc', L', st') from hs)
    subst ht0
    cases he
    have hxr : R32 x2 := d_rv_hd hl2
    refine ⟨hl1, d_rv_tl hl2, fun k => ?_⟩
    exact lv_lookup hx hb hd hp (by rw [i32_t hxr]) (d_sw_off sw x2 b dflt pc ps.toList hm hb2) (k ls hL)

theorem rf_table {dflt lo hi : Int} {offs : Array Int} {len b : Nat} {sw : List (Int × Nat)} (hd : decode cc pc = .ok (.tableswitch dflt lo hi offs, len)) (hb2 : (pc : Int) + dflt = (b : Int)) (hn : (hi - lo + 1).toNat = offs.size) (hl : lo ≤ hi) (hm : sw = (List.range offs.size).map (fun i : Nat => (lo + (i : Int), ((pc : Int) + offs.getD i 0).toNat))) (hpos : ∀ i, i < offs.size → 0 ≤ (pc : Int) + offs.getD i 0) : d_RF own cc nL pc 15 len 0 (b : Int) sw := by
  rintro p l e R s m args below meth c G sc Q H locs cells slots L st L' st' pc' ls ⟨hx, hb, hml, hown, hts, hF, hS0⟩ hS hs hl1 hl2 hL
  cases st with
  | nil => cases hs
  | cons x st =>
    obtain ⟨x1, x2⟩ := x
    obtain ⟨ht0, he⟩ := d_if (show (if x1 = 0 then some (d_sw sw x2 b, L, st) else none) = some (pc', L', st') from hs)
    subst ht0
    cases he
    have hxr : R32 x2 := d_rv_hd hl2
    refine ⟨hl1, d_rv_tl hl2, fun k => ?_⟩
    have key := k ls hL
    by_cases hin : x2 < lo ∨ hi < x2
    · have e : d_sw sw x2 b = b := by
        rw [hm]
        exact d_sw_out _ _ _ (fun q hq => by
          obtain ⟨i, hi', rfl⟩ := List.mem_map.mp hq
          have := List.mem_range.mp hi'
          show lo + (i : Int) ≠ x2
          omega)
      rw [e] at key
      exact lv_tableOut hx hb hd (by rw [i32_t hxr]; exact hin) hb2 key
    · have h1 : ¬ x2 < lo := fun z => hin (Or.inl z)
      have h2 : ¬ hi < x2 := fun z => hin (Or.inr z)
      have hlt : (x2 - lo).toNat < offs.size := by omega
      have e : d_sw sw x2 b = ((pc : Int) + offs.getD (x2 - lo).toNat 0).toNat := by
        rw [hm]
        exact d_sw_in (fun i => ((pc : Int) + offs.getD i 0).toNat) _ hlt (by omega)
      rw [e] at key
      refine lv_tableIn hx hb hd (by rw [i32_t hxr]; exact h1) (by rw [i32_t hxr]; exact h2) (off := offs.getD (x2 - lo).toNat 0) ?_ (tgt := ((pc : Int) + offs.getD (x2 - lo).toNat 0).toNat) ?_ key
      · rw [i32_t hxr, Array.getD_eq_getD_getElem?, Array.getElem?_eq_getElem hlt]
        rfl
      · have := hpos _ hlt
        omega

theorem rf_pop (hd : decode cc pc = .ok (.pop, 1)) : d_RF own cc nL pc 36 1 0 0 [] := by
  rintro p l e R s m args below meth c G sc Q H locs cells slots L st L' st' pc' ls ⟨hx, hb, hml, hown, hts, hF, hS0⟩ hS hs hl1 hl2 hL
  cases st with
  | nil => cases hs
  | cons x st =>
    have hs : (if x.1 = 1 then none else some (pc + 1, L, st)) = some (pc', L', st') := hs
    by_cases ht : x.1 = 1
    · rw [if_pos ht] at hs
      cases hs
    · rw [if_neg ht] at hs
      cases hs
      exact ⟨hl1, d_rv_tl hl2, fun k => lv_pop hx hb hd (d_cat1 G ht) (k ls hL)⟩

theorem rf_dup (hd : decode cc pc = .ok (.dup, 1)) : d_RF own cc nL pc 37 1 0 0 [] := by
  rintro p l e R s m args below meth c G sc Q H locs cells slots L st L' st' pc' ls ⟨hx, hb, hml, hown, hts, hF, hS0⟩ hS hs hl1 hl2 hL
  cases st with
  | nil => cases hs
  | cons x st =>
    have hs : (if x.1 = 1 then none else some (pc + 1, L, x :: x :: st)) = some (pc', L', st') := hs
    by_cases ht : x.1 = 1
    · rw [if_pos ht] at hs
      cases hs
    · rw [if_neg ht] at hs
      cases hs
      exact ⟨hl1, d_rv_cons (d_rv_hd hl2) hl2, fun k => lv_dup hx hb hd (d_cat1 G ht) (k ls hL)⟩

theorem rf_dup2 (hd : decode cc pc = .ok (.dup2, 1)) : d_RF own cc nL pc 38 1 0 0 [] := by
  rintro p l e R s m args below meth c G sc Q H locs cells slots L st L' st' pc' ls ⟨hx, hb, hml, hown, hts, hF, hS0⟩ hS hs hl1 hl2 hL
  cases st with
  | nil => cases hs
  | cons y st => cases st with
    | nil => cases hs
    | cons x st =>
      have hs : (if y.1 = 1 ∨ x.1 = 1 then none else some (pc + 1, L, y :: x :: y :: x :: st)) = some (pc', L', st') := hs
      by_cases ht : y.1 = 1 ∨ x.1 = 1
      · rw [if_pos ht] at hs
        cases hs
      · rw [if_neg ht] at hs
        cases hs
        exact ⟨hl1, d_rv_cons (d_rv_hd hl2) (d_rv_cons (d_rv_hd (d_rv_tl hl2)) hl2), fun k => lv_dup2_11 hx hb hd (d_cat1 G (fun z => ht (Or.inl z))) (d_cat1 G (fun z => ht (Or.inr z))) (k ls hL)⟩
end DFR
